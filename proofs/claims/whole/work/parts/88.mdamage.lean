section MDAMAGE
variable {xs : List Int32} {h : pm_H} {o : Nat} {A B : Nat → List Int32} {I : Nat → Int32} {im : Nat → dp_P} {L : dp_K} {Q : Option Value → pm_H → Prop}
theorem ct_M_damageK {q i k : Nat} {a v : Int32} (hb : mr_R h o A I) (hm : mi A im) (hkL : mk A (40 * q) L) (hq : (q = 0 ∧ I 5 = nI L.length ∧ L.length ≤ 40) ∨ (q = 1 ∧ I 6 = nI L.length ∧ L.length ≤ 6)) (hi : i < 4) (hk : k < (im i).length)
    (k1 : ∀ L' : dp_K, dm_R L (pl_i (im i) k) a v L' → ∀ (g : pm_H) (B : Nat → List Int32), mr_R g o B (fr_up I (5 + q) (nI L'.length)) → mk B (40 * q) L' → mq_ag q A B → fr_ag o (o + 15) h g → Q (some (.int 1)) g)
    (k0 : (∀ L' : dp_K, ¬ dm_R L (pl_i (im i) k) a v L') → Q (some (.int 0)) h) : pm_W xs 2 mM_damage 20 [.ref o, .int (nI q), .int (nI i), .int (nI k), .int a, .int v, pm_none] [] h Q := by
  have h1 := hb.1
  have hql : 40 * q + L.length ≤ 46 ∧ q ≤ 1 ∧ L.length ≤ 40 := by omega
  have hI : I (5 + q) = nI L.length := by
    rcases hq with ⟨rfl, e, -⟩ | ⟨rfl, e, -⟩
    · exact e
    · exact e
  have hne : im i ≠ [] := by intro z; rw [z] at hk; exact absurd hk (Nat.not_lt_zero _)
  obtain ⟨l1, l2, l3⟩ := (hm i hi).2.1 hne
  have ex : nI 16 * (nI 1 + nI i) + nI k = nI (16 * (1 + i) + k) := by rw [nI_add, fr_mul, nI_add]
  (repeat (first | refine pm_W.ts rfl rfl ?_ | refine pm_W.tl rfl rfl ?_ | refine pm_W.get rfl rfl h1 rfl ?_))
  show pm_W xs 2 mM_damage _ _ [.int (nI 16 * (nI 1 + nI i) + nI k), .ref (o + 10), .int (nI q), .ref o] h Q
  rw [ex]
  refine mr_ld (i := 10) hb rfl rfl rfl rfl (show 16 * (1 + i) + k < 112 by omega) ?_
  rw [(l3 k hk).2.2]
  refine pm_W.callV (d' := 0) (as := [.int (nI q), .int (pl_i (im i) k)]) rfl rfl rfl rfl (fr_ble rfl) h1 (fr_ble rfl) (ct_M_find hb hkL hq (fun p he hp => ?_) (fun he => ?_))
  · obtain ⟨-, f2, f3⟩ := fr_find_some he
    have f2 : kp_i L p = pl_i (im i) k := of_decide_eq_true f2
    have f3 : ∀ j, j < p → kp_i L j ≠ pl_i (im i) k := fun j hj => of_decide_eq_false (f3 j hj)
    have uniq : ∀ {p2 : Nat}, p2 < L.length → kp_i L p2 = pl_i (im i) k → (∀ j, j < p2 → kp_i L j ≠ pl_i (im i) k) → p2 = p := by
      intro p2 u1 u2 u3
      have := ex_kp_ok u1 u2 u3
      rw [he] at this
      exact (Option.some.inj this).symm
    obtain ⟨n1, n2, n3, n4⟩ := hkL p hp
    (repeat (first | refine pm_W.ts rfl rfl ?_ | refine pm_W.tl rfl rfl ?_))
    refine pm_W.ifz rfl (fun _ => ?_) (fun z => absurd (nI_pos' (by omega)) z)
    (repeat (first | refine pm_W.ts rfl rfl ?_ | refine pm_W.tl rfl rfl ?_))
    refine pm_W.icmp rfl (fun c => ?_) (fun c => ?_)
    · have c : ¬ a = -1 := c
      have no : (∀ L' : dp_K, ¬ dm_R L (pl_i (im i) k) a v L') → pm_W xs 2 mM_damage 91 [.ref o, .int (nI q), .int (nI i), .int (nI k), .int a, .int v, .int (nI (40 * q + p))] [] h Q := by
        intro z
        (repeat (first | refine pm_W.ts rfl rfl ?_ | refine pm_W.tl rfl rfl ?_))
        exact pm_W.iret rfl rfl (k0 z)
      have inside : ∀ L', dm_R L (pl_i (im i) k) a v L' → ∃ t j : Nat, t < (kp_b L p).length ∧ a = nI t ∧ j < 256 ∧ v = nI j := by
        rintro L' ⟨p2, u1, u2, u3, (⟨u4, -⟩ | ⟨-, t, j, u5, u6, u7, u8, -⟩)⟩
        · exact absurd u4 c
        · rw [uniq u1 u2 u3] at u5
          exact ⟨t, j, u5, u6, u7, u8⟩
      (repeat (first | refine pm_W.ts rfl rfl ?_ | refine pm_W.tl rfl rfl ?_))
      refine pm_W.ifz rfl (fun d => no (fun L' z => ?_)) (fun d => ?_)
      · obtain ⟨t, j, z1, z2, z3, z4⟩ := inside L' z
        rw [z2] at d
        exact nI_pos (by omega) d
      · obtain ⟨t, ht, rfl⟩ := fr_nat (fr_nlt d)
        (repeat (first | refine pm_W.ts rfl rfl ?_ | refine pm_W.tl rfl rfl ?_ | refine pm_W.get rfl rfl h1 rfl ?_))
        refine mr_ld (i := 14) hb rfl rfl rfl rfl (show 40 * q + p < 46 by omega) ?_
        rw [n2]
        refine pm_W.icmp rfl (fun d2 => no (fun L' z => ?_)) (fun d2 => ?_)
        · have d2 : nI (kp_b L p).length ≤ nI t := d2
          rw [nI_leI (by omega) ht] at d2
          obtain ⟨t2, j, z1, z2, z3, z4⟩ := inside L' z
          rw [nI_eq ht (by omega)] at z2
          omega
        · have d2 : ¬ nI (kp_b L p).length ≤ nI t := d2
          rw [nI_leI (by omega) ht] at d2
          (repeat (first | refine pm_W.ts rfl rfl ?_ | refine pm_W.tl rfl rfl ?_))
          refine pm_W.ifz rfl (fun d3 => no (fun L' z => ?_)) (fun d3 => ?_)
          · obtain ⟨t2, j, z1, z2, z3, z4⟩ := inside L' z
            rw [z4] at d3
            exact nI_pos (by omega) d3
          · obtain ⟨j, hj, rfl⟩ := fr_nat (fr_nlt d3)
            (repeat (first | refine pm_W.ts rfl rfl ?_ | refine pm_W.tl rfl rfl ?_))
            refine pm_W.icmp rfl (fun d4 => ?_) (fun d4 => no (fun L' z => ?_))
            · have d4 : nI j ≤ nI 255 := d4
              rw [nI_leI hj (by omega)] at d4
              have m1 : (A 1).length = 1952 := hb.len (i := 1) rfl rfl
              have ey : nI 480 + nI 32 * nI (40 * q + p) + nI t = nI (480 + 32 * (40 * q + p) + t) := by rw [fr_mul, nI_add, nI_add]
              (repeat (first | refine pm_W.ts rfl rfl ?_ | refine pm_W.tl rfl rfl ?_ | refine pm_W.get rfl rfl h1 rfl ?_))
              show pm_W xs 2 mM_damage _ _ [.int (nI j), .int (nI 480 + nI 32 * nI (40 * q + p) + nI t), .ref (o + 1)] h Q
              rw [ey]
              refine mr_st (i := 1) hb rfl rfl rfl rfl (show 480 + 32 * (40 * q + p) + t < 1952 by omega) (fun g2 r2 a2 => ?_)
              (repeat (first | refine pm_W.ts rfl rfl ?_ | refine pm_W.tl rfl rfl ?_))
              refine pm_W.iret rfl rfl (k1 (L.set p (pl_i (im i) k, (kp_b L p).set t (nI j))) ⟨p, hp, f2, f3, Or.inr ⟨c, t, j, by omega, rfl, by omega, rfl, rfl⟩⟩ g2 (fr_up A 1 ((A 1).set (480 + 32 * (40 * q + p) + t) (nI j))) ?_ (fun s hs => ?_) ⟨fun s h1 h2 h3 => fr_up_n h1, fun s j h1 h2 => ?_, fun s hs => ?_⟩ a2)
              · rw [List.length_set, ← hI, mr_up_id]; exact r2
              · rw [List.length_set] at hs
                obtain ⟨w1, w2, w3, w4⟩ := hkL s hs
                unfold mb
                rw [fr_up_s, fr_up_n (show (13 : Nat) ≠ 1 by omega), fr_up_n (show (14 : Nat) ≠ 1 by omega)]
                by_cases cs : s = p
                · subst cs
                  rw [(kp_set_s hp).1, (kp_set_s hp).2]
                  refine ⟨w1.trans f2, by rw [List.length_set]; exact w2, by rw [List.length_set]; exact w3, fun y hy => ?_⟩
                  replace hy : y < ((kp_b L s).set t (nI j)).length := hy
                  rw [List.length_set] at hy
                  show _ = ((kp_b L s).set t (nI j)).getD y 0
                  by_cases cy : y = t
                  · subst cy
                    rw [fr_gs (by omega), fr_gs hy]
                  · rw [fr_gn (by omega), fr_gn (fun z => cy z.symm)]
                    exact w4 y hy
                · rw [(kp_set_n (fun z => cs z.symm)).1, (kp_set_n (fun z => cs z.symm)).2]
                  refine ⟨w1, w2, w3, fun y hy => ?_⟩
                  rw [fr_gn (by omega)]
                  exact w4 y hy
              · rw [fr_up_n (by omega)]
              · rw [fr_up_s, fr_gn (by omega)]
            · have d4 : ¬ nI j ≤ nI 255 := d4
              rw [nI_leI hj (by omega)] at d4
              obtain ⟨t2, j2, z1, z2, z3, z4⟩ := inside L' z
              rw [nI_eq hj (by omega)] at z4
              omega
    · have c : ¬ ¬ a = -1 := c
      have c := Decidable.not_not.mp c
      (repeat (first | refine pm_W.ts rfl rfl ?_ | refine pm_W.tl rfl rfl ?_))
      refine pm_W.callV (d' := 1) (as := [.int (nI (40 * q + p))]) rfl rfl rfl rfl (fr_ble rfl) h1 (fr_ble rfl) (ct_M_drop hb hkL hq hp (fun g2 C hC c1 c2 a2 => ?_))
      (repeat (first | refine pm_W.ts rfl rfl ?_ | refine pm_W.tl rfl rfl ?_))
      refine pm_W.iret rfl rfl (k1 (L.eraseIdx p) ⟨p, hp, f2, f3, Or.inl ⟨c, rfl⟩⟩ g2 C ?_ c1 c2 a2)
      rw [List.length_eraseIdx_of_lt hp]
      exact hC
  · (repeat (first | refine pm_W.ts rfl rfl ?_ | refine pm_W.tl rfl rfl ?_))
    refine pm_W.ifz rfl (fun z => absurd (show (0 : Int32) ≤ -1 from z) (by decide)) (fun _ => ?_)
    (repeat (first | refine pm_W.ts rfl rfl ?_ | refine pm_W.tl rfl rfl ?_))
    refine pm_W.iret rfl rfl (k0 (fun L' z => ?_))
    obtain ⟨p, u1, u2, u3, -⟩ := z
    rw [ex_kp_ok u1 u2 u3] at he
    cases he
end MDAMAGE
