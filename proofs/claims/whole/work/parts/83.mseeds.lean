def mse (A : Nat → List Int32) (sd : Nat → List Int32 × dp_P) : Prop := ∀ s, s < 2 → (A 2).getD s 0 = nI (sd s).1.length ∧ (sd s).1.length ≤ 117 ∧ mb A (240 + 120 * s) (sd s).1 ∧ ml A (5 + s) (sd s).2
section MSEEDS
variable {xs : List Int32} {h : pm_H} {o : Nat} {A : Nat → List Int32} {I : Nat → Int32} {z : cz_N} {sd : Nat → List Int32 × dp_P} {Q : Option Value → pm_H → Prop}
theorem ct_M_alter {x a v : Int32} (hb : mr_R h o A I) (hm : mse A sd) (k1 : ∀ i t j : Nat, i < 2 → x = nI i → t < (sd i).1.length → a = nI t → j < 256 → v = nI j → ∀ (g : pm_H) (B : Nat → List Int32), mr_R g o B I → mse B (fr_up sd i ((sd i).1.set t (nI j), (sd i).2)) → (∀ i, i ≠ 1 → B i = A i) → (∀ j, j < 240 ∨ 480 ≤ j → (B 1).getD j 0 = (A 1).getD j 0) → fr_ag o (o + 15) h g → Q (some (.int 1)) g)
    (k0 : (∀ i t j : Nat, i < 2 → x = nI i → t < (sd i).1.length → a = nI t → j < 256 → v ≠ nI j) → Q (some (.int 0)) h) : pm_X xs 0 mM_alter [.ref o, .int x, .int a, .int v] h Q := by
  have h1 := hb.1
  have no : (∀ i t j : Nat, i < 2 → x = nI i → t < (sd i).1.length → a = nI t → j < 256 → v ≠ nI j) → pm_W xs 0 mM_alter 34 [.ref o, .int x, .int a, .int v] [] h Q := by
    intro c
    (repeat (first | refine pm_W.ts rfl rfl ?_ | refine pm_W.tl rfl rfl ?_))
    exact pm_W.iret rfl rfl (k0 c)
  have main : ∀ i, i < 2 → x = nI i → pm_W xs 0 mM_alter 9 [.ref o, .int x, .int a, .int v] [] h Q := by
    intro i hi e
    subst e
    obtain ⟨s1, s2, s3, s4⟩ := hm i hi
    have un : ∀ {i2 : Nat}, i2 < 2 → nI i = nI i2 → i2 = i := fun h2 e => by rw [nI_eq (by omega) (by omega)] at e; exact e.symm
    (repeat (first | refine pm_W.ts rfl rfl ?_ | refine pm_W.tl rfl rfl ?_))
    refine pm_W.ifz rfl (fun c => no (fun i2 t j e1 e2 e3 e4 e5 e6 => ?_)) (fun c => ?_)
    · rw [un e1 e2] at e3
      rw [e4] at c
      exact nI_pos (by omega) c
    · obtain ⟨t, ht, rfl⟩ := fr_nat (fr_nlt c)
      (repeat (first | refine pm_W.ts rfl rfl ?_ | refine pm_W.tl rfl rfl ?_ | refine pm_W.get rfl rfl h1 rfl ?_))
      refine mr_ld (i := 2) hb rfl rfl rfl rfl (show i < 2 from hi) ?_
      rw [s1]
      refine pm_W.icmp rfl (fun c2 => no (fun i2 t2 j e1 e2 e3 e4 e5 e6 => ?_)) (fun c2 => ?_)
      · have c2 : nI (sd i).1.length ≤ nI t := c2
        rw [nI_leI (by omega) ht] at c2
        rw [un e1 e2] at e3
        rw [nI_eq ht (by omega)] at e4
        omega
      · have c2 : ¬ nI (sd i).1.length ≤ nI t := c2
        rw [nI_leI (by omega) ht] at c2
        (repeat (first | refine pm_W.ts rfl rfl ?_ | refine pm_W.tl rfl rfl ?_))
        refine pm_W.ifz rfl (fun c3 => no (fun i2 t2 j e1 e2 e3 e4 e5 e6 => ?_)) (fun c3 => ?_)
        · rw [e6] at c3
          exact nI_pos (by omega) c3
        · obtain ⟨j, hj, rfl⟩ := fr_nat (fr_nlt c3)
          (repeat (first | refine pm_W.ts rfl rfl ?_ | refine pm_W.tl rfl rfl ?_))
          refine pm_W.icmp rfl (fun c4 => ?_) (fun c4 => no (fun i2 t2 j2 e1 e2 e3 e4 e5 e6 => ?_))
          · have c4 : nI j ≤ nI 255 := c4
            rw [nI_leI hj (by omega)] at c4
            have m1 : (A 1).length = 1952 := hb.len (i := 1) rfl rfl
            have ex : nI 240 + nI 120 * nI i + nI t = nI (240 + 120 * i + t) := by rw [fr_mul, nI_add, nI_add]
            (repeat (first | refine pm_W.ts rfl rfl ?_ | refine pm_W.tl rfl rfl ?_ | refine pm_W.get rfl rfl h1 rfl ?_))
            show pm_W xs 0 mM_alter _ _ [.int (nI j), .int (nI 240 + nI 120 * nI i + nI t), .ref (o + 1)] h Q
            rw [ex]
            refine mr_st (i := 1) hb rfl rfl rfl rfl (show 240 + 120 * i + t < 1952 by omega) (fun g2 r2 a2 => ?_)
            (repeat (first | refine pm_W.ts rfl rfl ?_ | refine pm_W.tl rfl rfl ?_))
            refine pm_W.iret rfl rfl (k1 i t j hi rfl (by omega) rfl (by omega) rfl g2 _ r2 (fun s hs => ?_) (fun q hq => fr_up_n hq) (fun q hq => ?_) a2)
            · obtain ⟨u1, u2, u3, u4⟩ := hm s hs
              unfold ml mlp mb
              rw [fr_up_s, fr_up_n (show (2 : Nat) ≠ 1 by omega), fr_up_n (show (7 : Nat) ≠ 1 by omega), fr_up_n (show (8 : Nat) ≠ 1 by omega), fr_up_n (show (9 : Nat) ≠ 1 by omega), fr_up_n (show (10 : Nat) ≠ 1 by omega)]
              by_cases cs : s = i
              · subst cs
                rw [fr_up_s]
                refine ⟨by rw [List.length_set]; exact u1, by rw [List.length_set]; exact u2, fun q hq => ?_, u4⟩
                rw [List.length_set] at hq
                by_cases cq : q = t
                · subst cq
                  rw [fr_gs (by omega), fr_gs hq]
                · rw [fr_gn (by omega), fr_gn (fun z => cq z.symm)]
                  exact u3 q hq
              · rw [fr_up_n cs]
                refine ⟨u1, u2, fun q hq => ?_, u4⟩
                rw [fr_gn (by omega)]
                exact u3 q hq
            · rw [fr_up_s, fr_gn (by omega)]
          · have c4 : ¬ nI j ≤ nI 255 := c4
            rw [nI_leI hj (by omega)] at c4
            rw [nI_eq hj (by omega)] at e6
            omega
  unfold pm_X
  (repeat (first | refine pm_W.ts rfl rfl ?_ | refine pm_W.tl rfl rfl ?_))
  refine pm_W.ifz rfl (fun c => main 0 (by omega) c) (fun c => ?_)
  (repeat (first | refine pm_W.ts rfl rfl ?_ | refine pm_W.tl rfl rfl ?_))
  refine pm_W.icmp rfl (fun c2 => no (fun i t j e1 e2 e3 e4 e5 e6 => ?_)) (fun c2 => main 1 (by omega) (Decidable.not_not.mp c2))
  match i, e1 with
  | 0, _ => exact c e2
  | 1, _ => exact c2 e2
  | n + 2, e1 => omega
end MSEEDS
