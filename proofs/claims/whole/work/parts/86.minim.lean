section MINIM
variable {xs : List Int32} {h : pm_H} {o : Nat} {A : Nat → List Int32} {I : Nat → Int32} {im : Nat → dp_P} {Q : Option Value → pm_H → Prop}
def mi_P (im : Nat → dp_P) (w : Int32) (i k : Nat) : Prop := (∃ j, j < i ∧ ∃ t, t < (im j).length ∧ pl_i (im j) t = w) ∨ (im i ≠ [] ∧ ∃ t, t < k ∧ pl_i (im i) t = w)
theorem ct_M_inImages {w : Int32} (hb : mr_R h o A I) (hm : mi A im) (k1 : dp_in im w → Q (some (.int 1)) h) (k0 : ¬ dp_in im w → Q (some (.int 0)) h) : pm_X xs 0 mM_inImages [.ref o, .int w] h Q := by
  have h1 := hb.1
  have outer : ∀ (r i : Nat) (c : Bool) (v4 : Value), i + r = 4 → (c = true ↔ mi_P im w i 0) → pm_W xs 0 mM_inImages 4 [.ref o, .int w, .int (fr_b c), .int (nI i), v4] [] h Q := by
    intro r
    induction r with
    | zero =>
      intro i c v4 hi hc
      have e : i = 4 := by omega
      subst e
      (repeat (first | refine pm_W.ts rfl rfl ?_ | refine pm_W.tl rfl rfl ?_))
      refine pm_W.icmp rfl (fun _ => ?_) (fun z => ?_)
      · (repeat (first | refine pm_W.ts rfl rfl ?_ | refine pm_W.tl rfl rfl ?_))
        cases c with
        | true =>
          refine pm_W.iret rfl rfl (k1 ?_)
          rcases hc.mp rfl with q | ⟨-, t, ht, -⟩
          · exact q
          · exact absurd ht (Nat.not_lt_zero _)
        | false =>
          refine pm_W.iret rfl rfl (k0 (fun q => ?_))
          exact absurd (hc.mpr (Or.inl q)) (fun z => by cases z)
      · have z : ¬ nI 4 ≤ nI 4 := z
        rw [nI_leI (by omega) (by omega)] at z
        omega
    | succ r ih =>
      intro i c v4 hi hc
      obtain ⟨g1, g2, cnt, g3, g4⟩ := hm i (by omega)
      have inner : ∀ (r k : Nat) (c : Bool), k + r = cnt → (c = true ↔ mi_P im w i k) → pm_W xs 0 mM_inImages 12 [.ref o, .int w, .int (fr_b c), .int (nI i), .int (nI k)] [] h Q := by
        intro r
        induction r with
        | zero =>
          intro k c hk hc
          have e : k = cnt := by omega
          subst e
          (repeat (first | refine pm_W.ts rfl rfl ?_ | refine pm_W.tl rfl rfl ?_ | refine pm_W.get rfl rfl h1 rfl ?_))
          rw [show Int32.ofInt 1 + nI i = nI (1 + i) from nI_add 1 i]
          refine mr_ld (i := 7) hb rfl rfl rfl rfl (show 1 + i < 7 by omega) ?_
          rw [g4]
          refine pm_W.icmp rfl (fun _ => ?_) (fun z => ?_)
          · (repeat (first | refine pm_W.ts rfl rfl ?_ | refine pm_W.tl rfl rfl ?_))
            refine pm_W.goto rfl ?_
            rw [fr_inc]
            refine ih (i + 1) c _ (by omega) (hc.trans ⟨fun q => ?_, fun q => ?_⟩)
            · rcases q with ⟨j, hj, q⟩ | ⟨hne, t, ht, q⟩
              · exact Or.inl ⟨j, by omega, q⟩
              · have l1 := (g2 hne).1
                have l2 := (g2 hne).2.1
                rw [g4, nI_eq (by omega) (by omega)] at l1
                exact Or.inl ⟨i, by omega, t, by omega, q⟩
            · rcases q with ⟨j, hj, t, ht, q⟩ | ⟨-, t, ht, -⟩
              · by_cases cj : j = i
                · subst cj
                  have hne : im j ≠ [] := by intro z; rw [z] at ht; exact absurd ht (Nat.not_lt_zero _)
                  have l1 := (g2 hne).1
                  have l2 := (g2 hne).2.1
                  rw [g4, nI_eq (by omega) (by omega)] at l1
                  exact Or.inr ⟨hne, t, by omega, q⟩
                · exact Or.inl ⟨j, by omega, t, ht, q⟩
              · exact absurd ht (Nat.not_lt_zero _)
          · have z : ¬ nI k ≤ nI k := z
            rw [nI_leI (by omega) (by omega)] at z
            omega
        | succ r ih2 =>
          intro k c hk hc
          have yes : mi_P im w i (k + 1) → pm_W xs 0 mM_inImages 56 [.ref o, .int w, .int (fr_b c), .int (nI i), .int (nI k)] [] h Q := by
            intro q
            (iterate 1 (first | refine pm_W.ts rfl rfl ?_ | refine pm_W.tl rfl rfl ?_))
            refine pm_W.goto rfl ?_
            (repeat (first | refine pm_W.ts rfl rfl ?_ | refine pm_W.tl rfl rfl ?_))
            refine pm_W.goto rfl ?_
            rw [fr_inc]
            exact ih2 (k + 1) true (by omega) ⟨fun _ => q, fun _ => rfl⟩
          have nay : ¬ mi_P im w i (k + 1) → pm_W xs 0 mM_inImages 60 [.ref o, .int w, .int (fr_b c), .int (nI i), .int (nI k)] [] h Q := by
            intro q
            (repeat (first | refine pm_W.ts rfl rfl ?_ | refine pm_W.tl rfl rfl ?_))
            refine pm_W.goto rfl ?_
            rw [fr_inc]
            exact ih2 (k + 1) false (by omega) ⟨fun z => absurd z Bool.false_ne_true, fun z => absurd z q⟩
          (repeat (first | refine pm_W.ts rfl rfl ?_ | refine pm_W.tl rfl rfl ?_ | refine pm_W.get rfl rfl h1 rfl ?_))
          rw [show Int32.ofInt 1 + nI i = nI (1 + i) from nI_add 1 i]
          refine mr_ld (i := 7) hb rfl rfl rfl rfl (show 1 + i < 7 by omega) ?_
          rw [g4]
          refine pm_W.icmp rfl (fun z => ?_) (fun _ => ?_)
          · have z : nI cnt ≤ nI k := z
            rw [nI_leI (by omega) (by omega)] at z
            omega
          · (repeat (first | refine pm_W.ts rfl rfl ?_ | refine pm_W.tl rfl rfl ?_))
            refine pm_W.ifz rfl (fun d => yes ?_) (fun d => ?_)
            · rcases hc.mp (fr_b1 d) with q | ⟨hne, t, ht, q⟩
              · exact Or.inl q
              · exact Or.inr ⟨hne, t, by omega, q⟩
            · have d : ¬ ¬ fr_b c = 0 := d
              have cf := fr_b0 (Decidable.not_not.mp d)
              have nP : ¬ mi_P im w i k := fun q => by have := hc.mpr q; rw [cf] at this; cases this
              (repeat (first | refine pm_W.ts rfl rfl ?_ | refine pm_W.tl rfl rfl ?_ | refine pm_W.get rfl rfl h1 rfl ?_))
              refine mr_ldz hb rfl (by omega) ?_
              rw [g1]
              refine pm_W.ifz rfl (fun d2 => nay (fun q => ?_)) (fun d2 => ?_)
              · have he := of_decide_eq_false (fr_b0 d2)
                rcases q with q | ⟨hne, -⟩
                · exact nP (Or.inl q)
                · exact he hne
              · have hne := of_decide_eq_true (fr_b1 d2)
                obtain ⟨l1, l2, l3⟩ := g2 hne
                rw [g4, nI_eq (by omega) (by omega)] at l1
                have ex : nI 16 * (nI 1 + nI i) + nI k = nI (16 * (1 + i) + k) := by rw [nI_add, fr_mul, nI_add]
                (repeat (first | refine pm_W.ts rfl rfl ?_ | refine pm_W.tl rfl rfl ?_ | refine pm_W.get rfl rfl h1 rfl ?_))
                show pm_W xs 0 mM_inImages _ _ [.int (nI 16 * (nI 1 + nI i) + nI k), .ref (o + 10)] h Q
                rw [ex]
                refine mr_ld (i := 10) hb rfl rfl rfl rfl (show 16 * (1 + i) + k < 112 by omega) ?_
                rw [(l3 k (by omega)).2.2]
                (repeat (first | refine pm_W.ts rfl rfl ?_ | refine pm_W.tl rfl rfl ?_))
                refine pm_W.icmp rfl (fun d3 => nay (fun q => ?_)) (fun d3 => yes (Or.inr ⟨hne, k, by omega, Decidable.not_not.mp d3⟩))
                rcases q with q | ⟨-, t, ht, q⟩
                · exact nP (Or.inl q)
                · by_cases ct : t = k
                  · rw [ct] at q; exact d3 q
                  · exact nP (Or.inr ⟨hne, t, by omega, q⟩)
      (repeat (first | refine pm_W.ts rfl rfl ?_ | refine pm_W.tl rfl rfl ?_))
      refine pm_W.icmp rfl (fun z => ?_) (fun _ => ?_)
      · have z : nI 4 ≤ nI i := z
        rw [nI_leI (by omega) (by omega)] at z
        omega
      · (iterate 2 (first | refine pm_W.ts rfl rfl ?_ | refine pm_W.tl rfl rfl ?_))
        exact inner cnt 0 c (by omega) hc
  unfold pm_X
  (iterate 4 (first | refine pm_W.ts rfl rfl ?_ | refine pm_W.tl rfl rfl ?_))
  refine outer 4 0 false _ (by omega) ⟨fun z => absurd z Bool.false_ne_true, fun q => ?_⟩
  rcases q with ⟨j, hj, -⟩ | ⟨-, t, ht, -⟩
  · exact absurd hj (Nat.not_lt_zero _)
  · exact absurd ht (Nat.not_lt_zero _)
end MINIM
