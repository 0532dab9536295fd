def mi (A : Nat → List Int32) (im : Nat → dp_P) : Prop := ∀ i, i < 4 → (A 11).getD i 0 = fr_b (decide (im i ≠ [])) ∧ (im i ≠ [] → ml A (1 + i) (im i)) ∧ ∃ c : Nat, c ≤ 15 ∧ (A 7).getD (1 + i) 0 = nI c
section MIMAGES
variable {xs : List Int32} {h : pm_H} {o : Nat} {A : Nat → List Int32} {I : Nat → Int32} {im : Nat → dp_P} {Q : Option Value → pm_H → Prop}
theorem ct_M_there {x : Int32} (hb : mr_R h o A I) (hm : mi A im) (k1 : ∀ i : Nat, i < 4 → x = nI i → im i ≠ [] → Q (some (.int 1)) h) (k0 : (∀ i : Nat, i < 4 → x = nI i → im i = []) → Q (some (.int 0)) h) : pm_X xs 0 mM_there [.ref o, .int x] h Q := by
  have h1 := hb.1
  have no : (∀ i : Nat, i < 4 → x = nI i → im i = []) → pm_W xs 0 mM_there 22 [.ref o, .int x] [] h Q := by
    intro c
    (repeat (first | refine pm_W.ts rfl rfl ?_ | refine pm_W.tl rfl rfl ?_))
    exact pm_W.iret rfl rfl (k0 c)
  unfold pm_X
  (repeat (first | refine pm_W.ts rfl rfl ?_ | refine pm_W.tl rfl rfl ?_))
  refine pm_W.ifz rfl (fun c => no (fun i hi e => ?_)) (fun c => ?_)
  · rw [e] at c
    exact absurd c (nI_pos (by omega))
  · obtain ⟨i, hi, rfl⟩ := fr_nat (fr_nlt c)
    (repeat (first | refine pm_W.ts rfl rfl ?_ | refine pm_W.tl rfl rfl ?_))
    refine pm_W.icmp rfl (fun c2 => no (fun j hj e => ?_)) (fun c2 => ?_)
    · have c2 : nI 4 ≤ nI i := c2
      rw [nI_leI (by omega) hi] at c2
      rw [nI_eq hi (by omega)] at e
      omega
    · have c2 : ¬ nI 4 ≤ nI i := c2
      rw [nI_leI (by omega) hi] at c2
      (repeat (first | refine pm_W.ts rfl rfl ?_ | refine pm_W.tl rfl rfl ?_ | refine pm_W.get rfl rfl h1 rfl ?_))
      refine mr_ldz hb rfl (by omega) ?_
      rw [(hm i (by omega)).1]
      refine pm_W.ifz rfl (fun c3 => no (fun j hj e => ?_)) (fun c3 => ?_)
      · rw [nI_eq hi (by omega)] at e
        subst e
        exact Decidable.not_not.mp (of_decide_eq_false (fr_b0 c3))
      · (repeat (first | refine pm_W.ts rfl rfl ?_ | refine pm_W.tl rfl rfl ?_))
        refine pm_W.goto rfl ?_
        exact pm_W.iret rfl rfl (k1 i (by omega) rfl (of_decide_eq_true (fr_b1 c3)))
theorem ct_M_discard {x : Int32} (hb : mr_R h o A I) (hm : mi A im) (k1 : ∀ i : Nat, i < 4 → x = nI i → im i ≠ [] → ∀ (g : pm_H) (B : Nat → List Int32), mr_R g o B I → mi B (fr_up im i []) → (∀ j, j ≠ 11 → B j = A j) → fr_ag o (o + 15) h g → Q (some (.int 1)) g) (k0 : (∀ i : Nat, i < 4 → x = nI i → im i = []) → Q (some (.int 0)) h) : pm_X xs 1 mM_discard [.ref o, .int x] h Q := by
  have h1 := hb.1
  unfold pm_X
  (repeat (first | refine pm_W.ts rfl rfl ?_ | refine pm_W.tl rfl rfl ?_))
  refine pm_W.callV (d' := 0) (as := [.int x]) rfl rfl rfl rfl (fr_ble rfl) h1 (fr_ble rfl) (ct_M_there hb hm (fun i hi e hne => ?_) (fun hno => ?_))
  · refine pm_W.ifz rfl (fun _ => ?_) (fun z => absurd (show ¬ (1 : Int32) = 0 by decide) z)
    subst e
    have m11 : (A 11).length = 4 := hb.len (i := 11) rfl rfl
    (repeat (first | refine pm_W.ts rfl rfl ?_ | refine pm_W.tl rfl rfl ?_ | refine pm_W.get rfl rfl h1 rfl ?_))
    refine mr_stz hb rfl hi (by decide) (fun g2 r2 a2 => ?_)
    (repeat (first | refine pm_W.ts rfl rfl ?_ | refine pm_W.tl rfl rfl ?_))
    refine pm_W.iret rfl rfl (k1 i hi rfl hne g2 _ r2 (fun j hj => ?_) (fun j hj => fr_up_n hj) a2)
    obtain ⟨g1, g2, g3⟩ := hm j hj
    rw [fr_up_s]
    unfold ml mlp
    rw [fr_up_n (show (7 : Nat) ≠ 11 by omega), fr_up_n (show (8 : Nat) ≠ 11 by omega), fr_up_n (show (9 : Nat) ≠ 11 by omega), fr_up_n (show (10 : Nat) ≠ 11 by omega)]
    by_cases c : j = i
    · subst c
      rw [fr_up_s, fr_gs (by omega)]
      exact ⟨rfl, fun z => absurd rfl z, g3⟩
    · rw [fr_up_n c, fr_gn (fun z => c z.symm)]
      exact ⟨g1, g2, g3⟩
  · refine pm_W.ifz rfl (fun z => absurd (show (0 : Int32) = 0 from rfl) z) (fun _ => ?_)
    (repeat (first | refine pm_W.ts rfl rfl ?_ | refine pm_W.tl rfl rfl ?_))
    exact pm_W.iret rfl rfl (k0 hno)
theorem ct_M_has {x y : Int32} (hb : mr_R h o A I) (hm : mi A im) (k1 : ∀ i k : Nat, i < 4 → x = nI i → k < (im i).length → y = nI k → Q (some (.int 1)) h) (k0 : (∀ i k : Nat, i < 4 → x = nI i → k < (im i).length → y ≠ nI k) → Q (some (.int 0)) h) : pm_X xs 1 mM_has [.ref o, .int x, .int y] h Q := by
  have h1 := hb.1
  have no : (∀ i k : Nat, i < 4 → x = nI i → k < (im i).length → y ≠ nI k) → pm_W xs 1 mM_has 28 [.ref o, .int x, .int y] [] h Q := by
    intro c
    (repeat (first | refine pm_W.ts rfl rfl ?_ | refine pm_W.tl rfl rfl ?_))
    exact pm_W.iret rfl rfl (k0 c)
  unfold pm_X
  (repeat (first | refine pm_W.ts rfl rfl ?_ | refine pm_W.tl rfl rfl ?_))
  refine pm_W.callV (d' := 0) (as := [.int x]) rfl rfl rfl rfl (fr_ble rfl) h1 (fr_ble rfl) (ct_M_there hb hm (fun i hi e hne => ?_) (fun hno => ?_))
  · refine pm_W.ifz rfl (fun z => absurd (show (1 : Int32) = 0 from z) (by decide)) (fun _ => ?_)
    subst e
    obtain ⟨g1, g2, g3⟩ := hm i hi
    obtain ⟨l1, l2, l3⟩ := g2 hne
    (repeat (first | refine pm_W.ts rfl rfl ?_ | refine pm_W.tl rfl rfl ?_))
    refine pm_W.ifz rfl (fun c => no (fun i2 k e1 e2 e3 e4 => ?_)) (fun c => ?_)
    · rw [nI_eq (by omega) (by omega)] at e2
      subst e2
      rw [e4] at c
      exact absurd c (nI_pos (by omega))
    · obtain ⟨k, hk, rfl⟩ := fr_nat (fr_nlt c)
      have e5 : Int32.ofInt 1 + nI i = nI (1 + i) := nI_add 1 i
      (repeat (first | refine pm_W.ts rfl rfl ?_ | refine pm_W.tl rfl rfl ?_ | refine pm_W.get rfl rfl h1 rfl ?_))
      rw [e5]
      refine mr_ld (i := 7) hb rfl rfl rfl rfl (show 1 + i < 7 by omega) ?_
      rw [l1]
      refine pm_W.icmp rfl (fun c2 => no (fun i2 k2 e1 e2 e3 e4 => ?_)) (fun c2 => ?_)
      · have c2 : nI (im i).length ≤ nI k := c2
        rw [nI_leI (by omega) hk] at c2
        rw [nI_eq (by omega) (by omega)] at e2
        subst e2
        rw [nI_eq hk (by omega)] at e4
        omega
      · have c2 : ¬ nI (im i).length ≤ nI k := c2
        rw [nI_leI (by omega) hk] at c2
        (repeat (first | refine pm_W.ts rfl rfl ?_ | refine pm_W.tl rfl rfl ?_))
        refine pm_W.goto rfl ?_
        exact pm_W.iret rfl rfl (k1 i k hi rfl (by omega) rfl)
  · refine pm_W.ifz rfl (fun _ => no (fun i k e1 e2 e3 e4 => ?_)) (fun z => absurd (show (0 : Int32) = 0 from rfl) z)
    rw [hno i e1 e2] at e3
    exact absurd e3 (Nat.not_lt_zero _)
end MIMAGES
