def mo (A : Nat → List Int32) (I : Nat → Int32) (ws : List Nat) : Prop := I 1 = nI ws.length ∧ ws.length ≤ 120 ∧ mb A 120 (ws.map nI)
def mta (I : Nat → Int32) (ta : List Nat) : Prop := ∀ i, i < 4 → I (7 + i) = nI (ta.getD i 0)
section MREADS
variable {xs : List Int32} {h : pm_H} {o : Nat} {A : Nat → List Int32} {I : Nat → Int32} {im : Nat → dp_P} {ws ta : List Nat} {Q : Option Value → pm_H → Prop}
theorem ct_M_counts {x : Int32} (hb : mr_R h o A I) (hm : mta I ta) (k1 : ∀ i : Nat, i < 4 → x = nI i → Q (some (.int (nI (ta.getD i 0)))) h) (k0 : (∀ i : Nat, i < 4 → x ≠ nI i) → Q (some (.int (-1))) h) : pm_X xs 0 mM_counts [.ref o, .int x] h Q := by
  have h1 := hb.1
  have y0 := hm 0 (by omega)
  have y1 := hm 1 (by omega)
  have y2 := hm 2 (by omega)
  have y3 := hm 3 (by omega)
  unfold pm_X
  (repeat (first | refine pm_W.ts rfl rfl ?_ | refine pm_W.tl rfl rfl ?_))
  refine pm_W.ifz rfl (fun c0 => ?_) (fun c0 => ?_)
  · (repeat (first | refine pm_W.ts rfl rfl ?_ | refine pm_W.tl rfl rfl ?_))
    refine pm_W.icmp rfl (fun c1 => ?_) (fun c1 => ?_)
    · (repeat (first | refine pm_W.ts rfl rfl ?_ | refine pm_W.tl rfl rfl ?_))
      refine pm_W.icmp rfl (fun c2 => ?_) (fun c2 => ?_)
      · (repeat (first | refine pm_W.ts rfl rfl ?_ | refine pm_W.tl rfl rfl ?_))
        refine pm_W.icmp rfl (fun c3 => ?_) (fun c3 => ?_)
        · (repeat (first | refine pm_W.ts rfl rfl ?_ | refine pm_W.tl rfl rfl ?_))
          refine pm_W.iret rfl rfl (k0 (fun i hi e => ?_))
          match i, hi with
          | 0, _ => exact c0 e
          | 1, _ => exact c1 e
          | 2, _ => exact c2 e
          | 3, _ => exact c3 e
          | n + 4, hi => omega
        · (repeat (first | refine pm_W.ts rfl rfl ?_ | refine pm_W.tl rfl rfl ?_ | refine pm_W.get rfl rfl h1 rfl ?_))
          refine pm_W.goto rfl ?_
          refine pm_W.iret rfl rfl ?_
          rw [y3]
          exact k1 3 (by omega) (Decidable.not_not.mp c3)
      · (repeat (first | refine pm_W.ts rfl rfl ?_ | refine pm_W.tl rfl rfl ?_ | refine pm_W.get rfl rfl h1 rfl ?_))
        refine pm_W.goto rfl ?_
        refine pm_W.iret rfl rfl ?_
        rw [y2]
        exact k1 2 (by omega) (Decidable.not_not.mp c2)
    · (repeat (first | refine pm_W.ts rfl rfl ?_ | refine pm_W.tl rfl rfl ?_ | refine pm_W.get rfl rfl h1 rfl ?_))
      refine pm_W.goto rfl ?_
      refine pm_W.iret rfl rfl ?_
      rw [y1]
      exact k1 1 (by omega) (Decidable.not_not.mp c1)
  · (repeat (first | refine pm_W.ts rfl rfl ?_ | refine pm_W.tl rfl rfl ?_ | refine pm_W.get rfl rfl h1 rfl ?_))
    refine pm_W.goto rfl ?_
    refine pm_W.iret rfl rfl ?_
    rw [y0]
    exact k1 0 (by omega) (Decidable.not_not.mp c0)
theorem mo_at {i : Nat} (hm : mo A I ws) (hi : i < ws.length) : (A 1).getD (120 + i) 0 = nI (rd_w ws i) := by
  rw [hm.2.2 i (by rw [List.length_map]; exact hi)]
  exact fr_mapD
theorem ct_M_output {x : Int32} (hb : mr_R h o A I) (hm : mo A I ws) (kl : x = -1 → Q (some (.int (nI ws.length))) h) (k1 : ∀ i : Nat, i < ws.length → x = nI i → Q (some (.int (nI (rd_w ws i)))) h) (k0 : x ≠ -1 → (∀ i : Nat, i < ws.length → x ≠ nI i) → Q (some (.int (-2))) h) : pm_X xs 0 mM_output [.ref o, .int x] h Q := by
  have h1 := hb.1
  have hl := hm.2.1
  unfold pm_X
  (repeat (first | refine pm_W.ts rfl rfl ?_ | refine pm_W.tl rfl rfl ?_))
  refine pm_W.icmp rfl (fun c => ?_) (fun c => ?_)
  · have c : ¬ x = -1 := c
    have no : (∀ i : Nat, i < ws.length → x ≠ nI i) → pm_W xs 0 mM_output 36 [.ref o, .int x] [] h Q := by
      intro hn
      (repeat (first | refine pm_W.ts rfl rfl ?_ | refine pm_W.tl rfl rfl ?_))
      exact pm_W.iret rfl rfl (k0 c hn)
    (repeat (first | refine pm_W.ts rfl rfl ?_ | refine pm_W.tl rfl rfl ?_))
    refine pm_W.ifz rfl (fun d => no (fun i hi e => ?_)) (fun d => ?_)
    · rw [e] at d
      exact nI_pos (by omega) d
    · obtain ⟨i, hi, rfl⟩ := fr_nat (fr_nlt d)
      (repeat (first | refine pm_W.ts rfl rfl ?_ | refine pm_W.tl rfl rfl ?_ | refine pm_W.get rfl rfl h1 rfl ?_))
      rw [hm.1]
      refine pm_W.icmp rfl (fun d2 => no (fun j hj e => ?_)) (fun d2 => ?_)
      · have d2 : nI ws.length ≤ nI i := d2
        rw [nI_leI (by omega) hi] at d2
        rw [nI_eq hi (by omega)] at e
        omega
      · have d2 : ¬ nI ws.length ≤ nI i := d2
        rw [nI_leI (by omega) hi] at d2
        (repeat (first | refine pm_W.ts rfl rfl ?_ | refine pm_W.tl rfl rfl ?_ | refine pm_W.get rfl rfl h1 rfl ?_))
        rw [show (Int8.ofInt 120).toInt32 + nI i = nI (120 + i) from nI_add 120 i]
        refine mr_ld (i := 1) hb rfl rfl rfl rfl (show 120 + i < 1952 by omega) ?_
        rw [mo_at hm (by omega)]
        refine pm_W.goto rfl ?_
        exact pm_W.iret rfl rfl (k1 i (by omega) rfl)
  · have c : ¬ ¬ x = -1 := c
    (repeat (first | refine pm_W.ts rfl rfl ?_ | refine pm_W.tl rfl rfl ?_ | refine pm_W.get rfl rfl h1 rfl ?_))
    rw [hm.1]
    refine pm_W.goto rfl ?_
    exact pm_W.iret rfl rfl (kl (Decidable.not_not.mp c))
end MREADS
