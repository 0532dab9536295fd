section MCUT2
variable {xs : List Int32} {h : pm_H} {o : Nat} {A : Nat → List Int32} {I : Nat → Int32} {z : cz_N} {bs : List Int32} {Q : Option Value → pm_H → Prop}
def mI (I : Nat → Int32) (z : cz_N) : Prop := I 2 = nI z.1 ∧ I 3 = nI z.2.1 ∧ I 4 = nI z.2.2
def mc_ag (A B : Nat → List Int32) (l : Nat) : Prop := (∀ i, i < 8 ∨ 10 < i → B i = A i) ∧ ∀ i j, 8 ≤ i → i ≤ 10 → (j < 16 * l ∨ 16 * l + 16 ≤ j) → (B i).getD j 0 = (A i).getD j 0
theorem mlp_app {A B : Nat → List Int32} {l : Nat} {ps : dp_P} {e : Nat} {w : Int32} (hm : mlp A l ps) (h15 : ps.length < 15) (l8 : 16 * l + ps.length < (A 8).length) (l9 : 16 * l + ps.length < (A 9).length) (l10 : 16 * l + ps.length < (A 10).length) (e8 : B 8 = (A 8).set (16 * l + ps.length) (nI (pl_s ps ps.length))) (e9 : B 9 = (A 9).set (16 * l + ps.length) (nI (e - pl_s ps ps.length))) (e10 : B 10 = (A 10).set (16 * l + ps.length) w) : mlp B l (ps ++ [(e, w)]) := by
  refine ⟨by rw [List.length_append, List.length_singleton]; omega, fun k hk => ?_⟩
  rw [List.length_append, List.length_singleton] at hk
  unfold ex_n
  by_cases c : k = ps.length
  · subst c
    rw [e8, e9, e10, fr_gs l8, fr_gs l9, fr_gs l10, mp_s_app (Nat.le_refl _), mp_e_end, mp_i_end]
    exact ⟨rfl, rfl, rfl⟩
  · have hk : k < ps.length := by omega
    rw [e8, e9, e10, fr_gn (by omega), fr_gn (by omega), fr_gn (by omega), mp_s_app (by omega), mp_e_app hk, mp_i_app hk]
    exact hm.2 k hk
theorem ct_M_cut {f l : Nat} (hb : mr_R h o A I) (hI : mI I z) (hz : cz_ok z) (hm : mb A f bs) (hl : bs.length ≤ 117) (hf : f + bs.length ≤ 1952) (hl7 : l < 7)
    (k : ∀ (g : pm_H) (B : Nat → List Int32), mr_R g o B I → ml B l (cz_cut z bs bs.length).1 → mc_ag A (fr_up B 7 (A 7)) l → (∀ j, j ≠ l → (B 7).getD j 0 = (A 7).getD j 0) → fr_ag o (o + 15) h g → Q none g) : pm_X xs 2 mM_cut [.ref o, .int (nI f), .int (nI bs.length), .int (nI l)] h Q := by
  obtain ⟨hI2, hI3, hI4⟩ := hI
  obtain ⟨y1, y2, y3, y4⟩ := id hz
  have loop : ∀ (r p : Nat) (g : pm_H) (B : Nat → List Int32) (v7 v8 : Value), p + r = bs.length → mr_R g o B I → mc_ag A B l → mlp B l (cz_cut z bs p).1 → fr_ag o (o + 15) h g → pm_W xs 2 mM_cut 9 [.ref o, .int (nI f), .int (nI bs.length), .int (nI l), .int (nI (cz_cut z bs p).1.length), .int (nI (cz_cut z bs p).2), .int (nI p), v7, v8] [] g Q := by
    intro r
    induction r with
    | zero =>
      intro p g B v7 v8 hp hB b1 b2 hag
      have e : p = bs.length := by omega
      subst e
      have t1 := hB.1
      have m7 : (B 7).length = 7 := hB.len (i := 7) rfl rfl
      (repeat (first | refine pm_W.ts rfl rfl ?_ | refine pm_W.tl rfl rfl ?_))
      refine pm_W.icmp rfl (fun _ => ?_) (fun c => ?_)
      · (repeat (first | refine pm_W.ts rfl rfl ?_ | refine pm_W.tl rfl rfl ?_ | refine pm_W.get rfl rfl t1 rfl ?_))
        refine mr_st (i := 7) hB rfl rfl rfl rfl (show l < 7 from hl7) (fun g2 r2 a2 => ?_)
        refine pm_W.ret rfl rfl (k g2 _ r2 ⟨?_, b2⟩ ⟨fun i hi => ?_, fun i j h8 h10 hj => ?_⟩ (fun j hj => ?_) (hag.tr a2))
        · rw [fr_up_s, fr_gs (by omega)]
        · by_cases c : i = 7
          · rw [c, fr_up_s]
          · rw [fr_up_n c, fr_up_n c]; exact b1.1 i hi
        · rw [fr_up_n (by omega), fr_up_n (by omega)]; exact b1.2 i j h8 h10 hj
        · rw [fr_up_s, fr_gn (fun z => hj z.symm), b1.1 7 (by omega)]
      · have c : ¬ nI bs.length ≤ nI bs.length := c
        rw [nI_leI (by omega) (by omega)] at c
        omega
    | succ r ih =>
      intro p g B v7 v8 hp hB b1 b2 hag
      have t1 := hB.1
      have hin := cz_cut_inv (bs := bs) hz p (by omega)
      have hs := cz_s (z := z) (bs := bs) p
      have m8 : (B 8).length = 112 := hB.len (i := 8) rfl rfl
      have m9 : (B 9).length = 112 := hB.len (i := 9) rfl rfl
      have m10 : (B 10).length = 112 := hB.len (i := 10) rfl rfl
      have i2 := hin.2.1 (by omega)
      have B1 : B 1 = A 1 := b1.1 1 (by omega)
      have skip : cz_end z bs (cz_cut z bs p).2 (p + 1) = false → ∀ (x7 : Int32) (v8 : Value), pm_W xs 2 mM_cut 125 [.ref o, .int (nI f), .int (nI bs.length), .int (nI l), .int (nI (cz_cut z bs p).1.length), .int (nI (cz_cut z bs p).2), .int (nI p), .int x7, v8] [] g Q := by
        intro hc x7 v8
        have ec : cz_cut z bs (p + 1) = cz_cut z bs p := by
          rw [cz_cut, if_neg (by rw [hc]; exact Bool.false_ne_true)]
        (repeat (first | refine pm_W.ts rfl rfl ?_ | refine pm_W.tl rfl rfl ?_))
        refine pm_W.goto rfl ?_
        rw [fr_inc]
        have := ih (p + 1) g B (.int x7) v8 (by omega) hB b1 (by rw [ec]; exact b2) hag
        rw [ec] at this
        exact this
      have take : cz_end z bs (cz_cut z bs p).2 (p + 1) = true → ∀ (v8 : Value), pm_W xs 2 mM_cut 72 [.ref o, .int (nI f), .int (nI bs.length), .int (nI l), .int (nI (cz_cut z bs p).1.length), .int (nI (cz_cut z bs p).2), .int (nI p), .int (nI (p + 1 - (cz_cut z bs p).2)), v8] [] g Q := by
        intro hc v8
        have ec : cz_cut z bs (p + 1) = ((cz_cut z bs p).1 ++ [(p + 1, bt_id bs (nI (cz_cut z bs p).2) (p + 1 - (cz_cut z bs p).2))], p + 1) := by
          rw [cz_cut, if_pos hc]
        have ex : nI 16 * nI l + nI (cz_cut z bs p).1.length = nI (16 * l + (cz_cut z bs p).1.length) := by rw [fr_mul, nI_add]
        (iterate 5 (first | refine pm_W.ts rfl rfl ?_ | refine pm_W.tl rfl rfl ?_))
        show pm_W xs 2 mM_cut _ _ [.int (nI 16 * nI l + nI (cz_cut z bs p).1.length)] g Q
        rw [ex]
        (repeat (first | refine pm_W.ts rfl rfl ?_ | refine pm_W.tl rfl rfl ?_ | refine pm_W.get rfl rfl t1 rfl ?_))
        refine mr_st (i := 8) hB rfl rfl rfl rfl (show 16 * l + (cz_cut z bs p).1.length < 112 by omega) (fun g1 r1 a1 => ?_)
        have t2 := r1.1
        (repeat (first | refine pm_W.ts rfl rfl ?_ | refine pm_W.tl rfl rfl ?_ | refine pm_W.get rfl rfl t2 rfl ?_))
        refine mr_st (i := 9) r1 rfl rfl rfl rfl (show 16 * l + (cz_cut z bs p).1.length < 112 by omega) (fun g2 r2 a2 => ?_)
        have t3 := r2.1
        (repeat (first | refine pm_W.ts rfl rfl ?_ | refine pm_W.tl rfl rfl ?_ | refine pm_W.get rfl rfl t3 rfl ?_))
        rw [nI_add]
        refine pm_W.callV (d' := 0) (as := [.int (nI (f + (cz_cut z bs p).2)), .int (nI (p + 1 - (cz_cut z bs p).2))]) rfl rfl rfl rfl (fr_ble rfl) t3 (fr_ble rfl) (ct_M_digest (bs := bs) r2 (fun k hk => ?_) (by omega) (by omega) hf ?_)
        · rw [fr_up_n (by omega), fr_up_n (by omega), B1]; exact hm k hk
        · refine mr_st (i := 10) r2 rfl rfl rfl rfl (show 16 * l + (cz_cut z bs p).1.length < 112 by omega) (fun g3 r3 a3 => ?_)
          (repeat (first | refine pm_W.ts rfl rfl ?_ | refine pm_W.tl rfl rfl ?_))
          refine pm_W.goto rfl ?_
          rw [fr_inc, fr_inc]
          have := ih (p + 1) g3 _ (.int (nI (p + 1 - (cz_cut z bs p).2))) (.int (nI (16 * l + (cz_cut z bs p).1.length))) (by omega) r3 ⟨fun i hi => ?_, fun i j h8 h10 hj => ?_⟩ ?_ (((hag.tr a1).tr a2).tr a3)
          · rw [ec] at this
            have e1 : nI ((cz_cut z bs p).1 ++ [(p + 1, bt_id bs (nI (cz_cut z bs p).2) (p + 1 - (cz_cut z bs p).2))]).length = nI ((cz_cut z bs p).1.length + 1) := by rw [List.length_append, List.length_singleton]
            rw [e1] at this
            exact this
          · rw [fr_up_n (by omega), fr_up_n (by omega), fr_up_n (by omega)]; exact b1.1 i hi
          · by_cases c10 : i = 10
            · rw [c10, fr_up_s, fr_gn (by omega), fr_up_n (by omega), fr_up_n (by omega)]; exact b1.2 10 j (by omega) (by omega) hj
            · by_cases c9 : i = 9
              · rw [c9, fr_up_n (by omega), fr_up_s, fr_gn (by omega), fr_up_n (by omega)]; exact b1.2 9 j (by omega) (by omega) hj
              · have c8 : i = 8 := by omega
                rw [c8, fr_up_n (by omega), fr_up_n (by omega), fr_up_s, fr_gn (by omega)]; exact b1.2 8 j (by omega) (by omega) hj
          · rw [ec]
            refine mlp_app b2 (by omega) (by omega) (by omega) (by omega) ?_ ?_ ?_
            · rw [hs]; rfl
            · rw [hs]; rfl
            · rfl
      (repeat (first | refine pm_W.ts rfl rfl ?_ | refine pm_W.tl rfl rfl ?_))
      refine pm_W.icmp rfl (fun c => ?_) (fun _ => ?_)
      · have c : nI bs.length ≤ nI p := c
        rw [nI_leI (by omega) (by omega)] at c
        omega
      · (iterate 3 (first | refine pm_W.ts rfl rfl ?_ | refine pm_W.tl rfl rfl ?_))
        rw [fr_inc]
        (iterate 2 (first | refine pm_W.ts rfl rfl ?_ | refine pm_W.tl rfl rfl ?_))
        rw [fr_sub (i := p + 1) (j := (cz_cut z bs p).2) (by omega)]
        (iterate 4 (first | refine pm_W.ts rfl rfl ?_ | refine pm_W.tl rfl rfl ?_))
        rw [fr_inc]
        (iterate 1 (first | refine pm_W.ts rfl rfl ?_ | refine pm_W.tl rfl rfl ?_))
        refine pm_W.icmp rfl (fun c1 => take (decide_eq_true (Or.inl ?_)) _) (fun c1 => ?_)
        · have c1 : nI (p + 1) = nI bs.length := c1
          rw [nI_eq (by omega) (by omega)] at c1
          exact c1
        · have c1 : ¬ nI (p + 1) = nI bs.length := c1
          rw [nI_eq (by omega) (by omega)] at c1
          (repeat (first | refine pm_W.ts rfl rfl ?_ | refine pm_W.tl rfl rfl ?_ | refine pm_W.get rfl rfl t1 rfl ?_))
          rw [hI4]
          refine pm_W.icmp rfl (fun c2 => take (decide_eq_true (Or.inr (Or.inl ?_))) _) (fun c2 => ?_)
          · have c2 : nI (p + 1 - (cz_cut z bs p).2) = nI z.2.2 := c2
            rw [nI_eq (by omega) (by omega)] at c2
            exact c2
          · have c2 : ¬ nI (p + 1 - (cz_cut z bs p).2) = nI z.2.2 := c2
            rw [nI_eq (by omega) (by omega)] at c2
            (repeat (first | refine pm_W.ts rfl rfl ?_ | refine pm_W.tl rfl rfl ?_ | refine pm_W.get rfl rfl t1 rfl ?_))
            rw [hI2]
            refine pm_W.icmp rfl (fun c3 => skip (decide_eq_false ?_) _ _) (fun c3 => ?_)
            · have c3 : nI (p + 1 - (cz_cut z bs p).2) < nI z.1 := c3
              rw [nI_ltI (by omega) (by omega)] at c3
              rintro (q | q | q) <;> omega
            · have c3 : ¬ nI (p + 1 - (cz_cut z bs p).2) < nI z.1 := c3
              rw [nI_ltI (by omega) (by omega)] at c3
              (repeat (first | refine pm_W.ts rfl rfl ?_ | refine pm_W.tl rfl rfl ?_))
              rw [nI_add]
              refine pm_W.callV (d' := 1) (as := [.int (nI (f + p))]) rfl rfl rfl rfl (fr_ble rfl) t1 (fr_ble rfl) (ct_M_mark hB (by omega) (by omega) ?_)
              have q3 : (B 1).getD (f + p - 3) 0 = bs.getD (p + 1 - 4) 0 := by rw [B1, show f + p - 3 = f + (p - 3) by omega, show p + 1 - 4 = p - 3 by omega]; exact hm (p - 3) (by omega)
              have q2 : (B 1).getD (f + p - 2) 0 = bs.getD (p + 1 - 3) 0 := by rw [B1, show f + p - 2 = f + (p - 2) by omega, show p + 1 - 3 = p - 2 by omega]; exact hm (p - 2) (by omega)
              have q1 : (B 1).getD (f + p - 1) 0 = bs.getD (p + 1 - 2) 0 := by rw [B1, show f + p - 1 = f + (p - 1) by omega, show p + 1 - 2 = p - 1 by omega]; exact hm (p - 1) (by omega)
              have q0 : (B 1).getD (f + p) 0 = bs.getD (p + 1 - 1) 0 := by rw [B1, show p + 1 - 1 = p by omega]; exact hm p (by omega)
              rw [q3, q2, q1, q0]
              (repeat (first | refine pm_W.ts rfl rfl ?_ | refine pm_W.tl rfl rfl ?_ | refine pm_W.get rfl rfl t1 rfl ?_))
              rw [hI3]
              refine pm_W.irem rfl (nI_ne0 (by omega) (by omega)) ?_
              (repeat (first | refine pm_W.ts rfl rfl ?_ | refine pm_W.tl rfl rfl ?_ | refine pm_W.get rfl rfl t1 rfl ?_))
              rw [hI3]
              refine pm_W.icmp rfl (fun c4 => skip (decide_eq_false ?_) _ _) (fun c4 => take (decide_eq_true (Or.inr (Or.inr ⟨by omega, Classical.not_not.mp c4⟩))) _)
              rintro (q | q | q)
              · exact c1 q
              · exact c2 q
              · exact c4 q.2
  unfold pm_X
  (iterate 6 (first | refine pm_W.ts rfl rfl ?_ | refine pm_W.tl rfl rfl ?_))
  exact loop bs.length 0 h A _ _ (by omega) hb ⟨fun _ _ => rfl, fun _ _ _ _ _ => rfl⟩ ⟨Nat.zero_le _, fun k hk => absurd hk (Nat.not_lt_zero _)⟩ fr_ag.rf
end MCUT2
