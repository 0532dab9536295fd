section MSPOIL
variable {xs : List Int32} {h : pm_H} {o : Nat} {A : Nat → List Int32} {I : Nat → Int32} {ws : List Nat} {Q : Option Value → pm_H → Prop}
theorem ct_M_spoil {x v : Int32} (hb : mr_R h o A I) (hm : mo A I ws) (k1 : ∀ vs : List Nat, sp_R ws x v vs → ∀ (g : pm_H) (B : Nat → List Int32) (y : Int32), mr_R g o B (fr_up I 1 y) → mo B (fr_up I 1 y) vs → (∀ i, i ≠ 1 → B i = A i) → (∀ j, j < 120 ∨ 240 ≤ j → (B 1).getD j 0 = (A 1).getD j 0) → fr_ag o (o + 15) h g → Q (some (.int 1)) g)
    (k0 : (∀ vs, ¬ sp_R ws x v vs) → Q (some (.int 0)) h) : pm_X xs 0 mM_spoil [.ref o, .int x, .int v] h Q := by
  have h1 := hb.1
  obtain ⟨m1, m2, m3⟩ := id hm
  have no : (∀ vs, ¬ sp_R ws x v vs) → pm_W xs 0 mM_spoil 24 [.ref o, .int x, .int v] [] h Q := by
    intro c
    (repeat (first | refine pm_W.ts rfl rfl ?_ | refine pm_W.tl rfl rfl ?_))
    exact pm_W.iret rfl rfl (k0 c)
  have inside : ∀ vs, sp_R ws x v vs → ∃ i : Nat, i ≤ ws.length ∧ x = nI i ∧ (v = -1 ∨ ∃ j : Nat, j < 256 ∧ v = nI j ∧ i < 120) := by
    rintro vs (⟨e1, i, e2, e3, -⟩ | ⟨j, e1, e2, i, e3, (⟨e4, e5, -⟩ | ⟨e4, -⟩)⟩)
    · exact ⟨i, e2, e3, Or.inl e1⟩
    · exact ⟨i, by omega, e3, Or.inr ⟨j, e1, e2, e5⟩⟩
    · exact ⟨i, by omega, e3, Or.inr ⟨j, e1, e2, by omega⟩⟩
  unfold pm_X
  (repeat (first | refine pm_W.ts rfl rfl ?_ | refine pm_W.tl rfl rfl ?_))
  refine pm_W.ifz rfl (fun c => no (fun vs q => ?_)) (fun c => ?_)
  · obtain ⟨i, q1, q2, -⟩ := inside vs q
    rw [q2] at c
    exact nI_pos (by omega) c
  · obtain ⟨i, hi, rfl⟩ := fr_nat (fr_nlt c)
    (repeat (first | refine pm_W.ts rfl rfl ?_ | refine pm_W.tl rfl rfl ?_ | refine pm_W.get rfl rfl h1 rfl ?_))
    rw [m1]
    refine pm_W.icmp rfl (fun c2 => no (fun vs q => ?_)) (fun c2 => ?_)
    · have c2 : nI ws.length < nI i := c2
      rw [nI_ltI (by omega) hi] at c2
      obtain ⟨i2, q1, q2, -⟩ := inside vs q
      rw [nI_eq hi (by omega)] at q2
      omega
    · have c2 : ¬ nI ws.length < nI i := c2
      rw [nI_ltI (by omega) hi] at c2
      (repeat (first | refine pm_W.ts rfl rfl ?_ | refine pm_W.tl rfl rfl ?_))
      refine pm_W.icmp rfl (fun c3 => no (fun vs q => ?_)) (fun c3 => ?_)
      · have c3 : v < -1 := c3
        obtain ⟨i2, q1, q2, q3⟩ := inside vs q
        rcases q3 with q3 | ⟨j, q4, q5, -⟩
        · rw [q3] at c3
          exact absurd c3 (by decide)
        · rw [q5, fr_lt, nI_toInt (by omega)] at c3
          have : (-1 : Int32).toInt = -1 := rfl
          omega
      · (repeat (first | refine pm_W.ts rfl rfl ?_ | refine pm_W.tl rfl rfl ?_))
        refine pm_W.icmp rfl (fun c4 => ?_) (fun c4 => no (fun vs q => ?_))
        · (repeat (first | refine pm_W.ts rfl rfl ?_ | refine pm_W.tl rfl rfl ?_))
          refine pm_W.icmp rfl (fun c5 => ?_) (fun c5 => ?_)
          · have c3 : ¬ v < -1 := c3
            have c5 : ¬ v = -1 := c5
            have c4 : v ≤ nI 255 := c4
            have v0 : 0 ≤ v := by
              rw [fr_lt] at c3
              rw [fr_eq] at c5
              have : (-1 : Int32).toInt = -1 := rfl
              rw [fr_le, fr_0]
              omega
            obtain ⟨j, hj, rfl⟩ := fr_nat v0
            rw [nI_leI hj (by omega)] at c4
            (repeat (first | refine pm_W.ts rfl rfl ?_ | refine pm_W.tl rfl rfl ?_))
            refine pm_W.icmp rfl (fun c6 => ?_) (fun c6 => ?_)
            · have c6 : ¬ nI i = nI 120 := c6
              rw [nI_eq hi (by omega)] at c6
              have l1 : (A 1).length = 1952 := hb.len (i := 1) rfl rfl
              (repeat (first | refine pm_W.ts rfl rfl ?_ | refine pm_W.tl rfl rfl ?_ | refine pm_W.get rfl rfl h1 rfl ?_))
              rw [show (Int8.ofInt 120).toInt32 + nI i = nI (120 + i) from nI_add 120 i]
              refine mr_st (i := 1) hb rfl rfl rfl rfl (show 120 + i < 1952 by omega) (fun g2 r2 a2 => ?_)
              have t2 := r2.1
              (repeat (first | refine pm_W.ts rfl rfl ?_ | refine pm_W.tl rfl rfl ?_ | refine pm_W.get rfl rfl t2 rfl ?_))
              rw [m1]
              refine pm_W.icmp rfl (fun c7 => ?_) (fun c7 => ?_)
              · have c7 : ¬ nI i = nI ws.length := c7
                rw [nI_eq hi (by omega)] at c7
                (repeat (first | refine pm_W.ts rfl rfl ?_ | refine pm_W.tl rfl rfl ?_ | refine pm_W.get rfl rfl t2 rfl ?_))
                rw [m1]
                refine mr_pt 1 r2 rfl rfl rfl rfl (Or.inl rfl) (fun g3 r3 a3 => ?_)
                (repeat (first | refine pm_W.ts rfl rfl ?_ | refine pm_W.tl rfl rfl ?_))
                refine pm_W.iret rfl rfl (k1 (ws.set i j) (Or.inr ⟨j, by omega, rfl, i, rfl, Or.inr ⟨by omega, rfl⟩⟩) g3 _ _ r3 ⟨by rw [fr_up_s, List.length_set], by rw [List.length_set]; exact m2, fun q hq => ?_⟩ (fun q hq => fr_up_n hq) (fun q hq => by rw [fr_up_s, fr_gn (by omega)]) (a2.tr a3))
                rw [List.length_map, List.length_set] at hq
                rw [fr_up_s, List.map_set]
                by_cases cq : q = i
                · subst cq
                  rw [fr_gs (by omega), fr_gs (by rw [List.length_map]; exact hq)]
                · rw [fr_gn (by omega), fr_gn (fun z => cq z.symm)]
                  exact m3 q (by rw [List.length_map]; exact hq)
              · have c7 : ¬ ¬ nI i = nI ws.length := c7
                rw [nI_eq hi (by omega)] at c7
                have c7 := Decidable.not_not.mp c7
                (repeat (first | refine pm_W.ts rfl rfl ?_ | refine pm_W.tl rfl rfl ?_ | refine pm_W.get rfl rfl t2 rfl ?_))
                rw [m1, fr_inc]
                refine pm_W.goto rfl ?_
                refine mr_pt 1 r2 rfl rfl rfl rfl (Or.inl rfl) (fun g3 r3 a3 => ?_)
                (repeat (first | refine pm_W.ts rfl rfl ?_ | refine pm_W.tl rfl rfl ?_))
                refine pm_W.iret rfl rfl (k1 (ws ++ [j]) (Or.inr ⟨j, by omega, rfl, i, rfl, Or.inl ⟨c7, by omega, rfl⟩⟩) g3 _ _ r3 ⟨by rw [fr_up_s, List.length_append, List.length_singleton], by rw [List.length_append, List.length_singleton]; omega, fun q hq => ?_⟩ (fun q hq => fr_up_n hq) (fun q hq => by rw [fr_up_s, fr_gn (by omega)]) (a2.tr a3))
                rw [List.length_map, List.length_append, List.length_singleton] at hq
                rw [fr_up_s, List.map_append, fr_gapp, List.length_map]
                by_cases cq : q = i
                · subst cq
                  rw [fr_gs (by omega), if_neg (by omega), c7, Nat.sub_self]
                  rfl
                · rw [fr_gn (by omega), if_pos (by omega)]
                  exact m3 q (by rw [List.length_map]; omega)
            · have c6 : ¬ ¬ nI i = nI 120 := c6
              rw [nI_eq hi (by omega)] at c6
              (repeat (first | refine pm_W.ts rfl rfl ?_ | refine pm_W.tl rfl rfl ?_))
              refine pm_W.iret rfl rfl (k0 (fun vs q => ?_))
              obtain ⟨i2, q1, q2, q3⟩ := inside vs q
              rw [nI_eq hi (by omega)] at q2
              rcases q3 with q3 | ⟨j2, -, -, q6⟩
              · exact c5 q3
              · omega
          · have c5 : ¬ ¬ v = -1 := c5
            have c5 := Decidable.not_not.mp c5
            (repeat (first | refine pm_W.ts rfl rfl ?_ | refine pm_W.tl rfl rfl ?_))
            refine mr_pt 1 hb rfl rfl rfl rfl (Or.inl rfl) (fun g3 r3 a3 => ?_)
            (repeat (first | refine pm_W.ts rfl rfl ?_ | refine pm_W.tl rfl rfl ?_))
            refine pm_W.iret rfl rfl (k1 (ws.take i) (Or.inl ⟨c5, i, by omega, rfl, rfl⟩) g3 _ _ r3 ⟨by rw [fr_up_s, List.length_take, Nat.min_eq_left (by omega)], by rw [List.length_take]; omega, fun q hq => ?_⟩ (fun q _ => rfl) (fun q _ => rfl) a3)
            rw [List.length_map, List.length_take] at hq
            rw [m3 q (by rw [List.length_map]; omega), List.map_take, List.getD_eq_getElem?_getD, List.getD_eq_getElem?_getD, List.getElem?_take_of_lt (by omega)]
        · have c4 : ¬ v ≤ nI 255 := c4
          obtain ⟨i2, q1, q2, q3⟩ := inside vs q
          rcases q3 with q3 | ⟨j, q4, q5, -⟩
          · rw [q3] at c4
            exact c4 (by decide)
          · rw [q5, nI_leI (by omega) (by omega)] at c4
            omega
end MSPOIL
