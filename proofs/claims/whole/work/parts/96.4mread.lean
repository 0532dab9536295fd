theorem fr_neg2 {p : Nat} (hp : p < 1000) : (-2 : Int32) - nI p = -1 - nI (p + 1) := by
  apply fr_eq.mpr
  rw [Int32.toInt_sub, Int32.toInt_sub, nI_toInt (by omega), nI_toInt (by omega)]
  show ((-2 : Int) - (p : Int)).bmod (2 ^ 32) = ((-1 : Int) - ((p + 1 : Nat) : Int)).bmod (2 ^ 32)
  congr 1
  omega
theorem fr_neg3 {p : Nat} (hp : p < 1000) : (-3 : Int32) - nI p = -1 - nI (p + 2) := by
  apply fr_eq.mpr
  rw [Int32.toInt_sub, Int32.toInt_sub, nI_toInt (by omega), nI_toInt (by omega)]
  show ((-3 : Int) - (p : Int)).bmod (2 ^ 32) = ((-1 : Int) - ((p + 2 : Nat) : Int)).bmod (2 ^ 32)
  congr 1
  omega
theorem fr_negn {q : Nat} (hq : q < 1000) : (-1 : Int32) - (-1 - nI q) = nI q := by
  apply fr_eq.mpr
  rw [Int32.toInt_sub, Int32.toInt_sub, nI_toInt (by omega)]
  show ((-1 : Int) - ((-1 : Int) - (q : Int)).bmod (2 ^ 32)).bmod (2 ^ 32) = (q : Int)
  rw [Int.bmod_eq_of_le (n := (-1 : Int) - (q : Int)) (by omega) (by omega), Int.bmod_eq_of_le (by omega) (by omega)]
  omega
theorem fr_negl {q : Nat} (hq : q < 1000) : (-1 : Int32) - nI q < 0 := by
  rw [fr_lt, Int32.toInt_sub, nI_toInt (by omega)]
  show ((-1 : Int) - (q : Int)).bmod (2 ^ 32) < 0
  rw [Int.bmod_eq_of_le (by omega) (by omega)]
  omega
theorem fr_orx {r k j : Nat} (hr : r < 2 ^ j) : nI r ||| nI (k * 2 ^ j) = nI (r + k * 2 ^ j) := by
  have h1 : nI r ||| nI (k * 2 ^ j) = nI (r ||| k * 2 ^ j) := by
    apply Int32.toBitVec_inj.mp
    show BitVec.ofNat 32 r ||| BitVec.ofNat 32 (k * 2 ^ j) = BitVec.ofNat 32 (r ||| k * 2 ^ j)
    apply BitVec.eq_of_toNat_eq
    simp only [BitVec.toNat_or, BitVec.toNat_ofNat, Nat.or_mod_two_pow]
  rw [h1, Nat.or_comm, Nat.mul_comm, ← Nat.two_pow_add_eq_or_of_lt hr, Nat.add_comm]
def ut_ag (A B : Nat → List Int32) : Prop := (∀ j, j ≠ 3 → j ≠ 4 → j ≠ 5 → j ≠ 6 → B j = A j) ∧ (∀ r t, 3 ≤ r → r ≤ 5 → t < 10 → (B r).getD t 0 = (A r).getD t 0) ∧ ∀ t, t < 160 → (B 6).getD t 0 = (A 6).getD t 0
theorem ut_ag.rf {A : Nat → List Int32} : ut_ag A A := ⟨fun _ _ _ _ _ => rfl, fun _ _ _ _ _ => rfl, fun _ _ => rfl⟩
theorem ut_ag.tr {A B C : Nat → List Int32} (x : ut_ag A B) (y : ut_ag B C) : ut_ag A C := ⟨fun j a b c d => by rw [y.1 j a b c d, x.1 j a b c d], fun r t a b c => by rw [y.2.1 r t a b c, x.2.1 r t a b c], fun t a => by rw [y.2.2 t a, x.2.2 t a]⟩
theorem ut_mt {A B : Nat → List Int32} {T : te_T} (hm : mt A 0 T) (hV : tV T) (hu : ut_ag A B) : mt B 0 T := by
  intro e he
  obtain ⟨m3, m4⟩ := hm e he
  refine ⟨by rw [hu.2.1 3 _ (by omega) (by omega) (by omega)]; exact m3, fun h0 => ?_⟩
  obtain ⟨q4, q5, q6⟩ := m4 h0
  have l16 := (hV.1 e he h0).2.2.1
  refine ⟨by rw [hu.2.1 4 _ (by omega) (by omega) (by omega)]; exact q4, by rw [hu.2.1 5 _ (by omega) (by omega) (by omega)]; exact q5, fun k hk => ?_⟩
  rw [hu.2.2 _ (by omega)]
  exact q6 k hk
theorem mo_rows {A B : Nat → List Int32} {I : Nat → Int32} {ws : List Nat} (hm : mo A I ws) (e : B 1 = A 1) : mo B I ws := by
  obtain ⟨a, b, c⟩ := hm
  refine ⟨a, b, ?_⟩
  unfold mb at c ⊢
  rw [e]
  exact c
theorem mt_new {A B : Nat → List Int32} {T : te_T} {n x v : Nat} {bs : List Int32} (hm : mt A 10 T) (hV : tV T) (hn : n < 10) (l3 : (A 3).length = 20) (l4 : (A 4).length = 20) (l5 : (A 5).length = 20) (e3 : B 3 = (A 3).set (10 + n) (nI x)) (e4 : B 4 = (A 4).set (10 + n) (nI v)) (e5 : B 5 = (A 5).set (10 + n) (nI bs.length)) (e6 : ∀ t, t < 16 * (10 + n) ∨ 16 * (10 + n) + 16 ≤ t → (B 6).getD t 0 = (A 6).getD t 0) (e6' : ∀ k, k < bs.length → (B 6).getD (16 * (10 + n) + k) 0 = bs.getD k 0) : mt B 10 (fr_up T n (x, v, bs)) := by
  intro e he
  rw [tP_up, tK_up, tB_up, e3, e4, e5]
  by_cases c : e = n
  · subst c
    rw [if_pos rfl, if_pos rfl, if_pos rfl, fr_gs (by omega), fr_gs (by omega), fr_gs (by omega)]
    exact ⟨rfl, fun _ => ⟨rfl, rfl, e6'⟩⟩
  · rw [if_neg c, if_neg c, if_neg c, fr_gn (by omega), fr_gn (by omega), fr_gn (by omega)]
    obtain ⟨m3, m4⟩ := hm e he
    refine ⟨m3, fun h0 => ?_⟩
    obtain ⟨q4, q5, q6⟩ := m4 h0
    have l16 := (hV.1 e he h0).2.2.1
    refine ⟨q4, q5, fun k hk => ?_⟩
    rw [e6 _ (by omega)]
    exact q6 k hk
section MREAD
variable {xs : List Int32} {h : pm_H} {o : Nat} {A : Nat → List Int32} {I : Nat → Int32} {T : te_T} {ws : List Nat} {Q : Option Value → pm_H → Prop}
theorem ct_M_byteAt {p : Nat} (hb : mr_R h o A I) (hm : mo A I ws) (hp : p < 1000) (k1 : p < ws.length → Q (some (.int (nI (rd_w ws p)))) h) (k0 : ¬ p < ws.length → Q (some (.int (-1))) h) : pm_X xs 0 mM_byteAt [.ref o, .int (nI p)] h Q := by
  have h1 := hb.1
  have hl := hm.2.1
  unfold pm_X
  (iterate 1 (first | refine pm_W.ts rfl rfl ?_ | refine pm_W.tl rfl rfl ?_))
  refine pm_W.ifz rfl (fun z => absurd z (nI_pos (by omega))) (fun _ => ?_)
  (repeat (first | refine pm_W.ts rfl rfl ?_ | refine pm_W.tl rfl rfl ?_ | refine pm_W.get rfl rfl h1 rfl ?_))
  rw [hm.1]
  refine pm_W.icmp rfl (fun c => ?_) (fun c => ?_)
  · have c : nI ws.length ≤ nI p := c
    rw [nI_leI (by omega) (by omega)] at c
    (iterate 1 (first | refine pm_W.ts rfl rfl ?_ | refine pm_W.tl rfl rfl ?_))
    exact pm_W.iret rfl rfl (k0 (by omega))
  · have c : ¬ nI ws.length ≤ nI p := c
    rw [nI_leI (by omega) (by omega)] at c
    (repeat (first | refine pm_W.ts rfl rfl ?_ | refine pm_W.tl rfl rfl ?_ | refine pm_W.get rfl rfl h1 rfl ?_))
    show pm_W xs 0 mM_byteAt _ _ [.int (nI 120 + nI p), .ref (o + 1)] h Q
    rw [nI_add]
    refine mr_ld (i := 1) (k := 120 + p) hb rfl rfl rfl rfl (show 120 + p < 1952 by omega) ?_
    rw [mo_at hm (by omega)]
    refine pm_W.goto rfl ?_
    exact pm_W.iret rfl rfl (k1 (by omega))
theorem ct_M_greatest {D : Nat} (hb : mr_R h o A I) (hm : mt A 10 T) (hV : tV T) (hD : pa_ok D = true) (k : Q (some (.int (nI (gr T D)))) h) : pm_X xs 2 mM_greatest [.ref o, .int (nI D)] h Q := by
  have h1 := hb.1
  have hD30 := pa_ok_30 hD
  have loop : ∀ (r n : Nat) (v4 : Value), n + r = 10 → pm_W xs 2 mM_greatest 5 [.ref o, .int (nI D), .int (nI (tr_mx (em_c T D) (em_n T) n)), .int (nI (10 + n)), v4] [] h Q := by
    intro r
    induction r with
    | zero =>
      intro n v4 hn
      have e10 : n = 10 := by omega
      subst e10
      (repeat (first | refine pm_W.ts rfl rfl ?_ | refine pm_W.tl rfl rfl ?_))
      refine pm_W.icmp rfl (fun _ => ?_) (fun z => ?_)
      · (iterate 1 (first | refine pm_W.ts rfl rfl ?_ | refine pm_W.tl rfl rfl ?_))
        exact pm_W.iret rfl rfl k
      · have z : ¬ nI 20 ≤ nI (10 + 10) := z
        rw [nI_leI (by omega) (by omega)] at z
        omega
    | succ r ih =>
      intro n v4 hn
      have ea := (hm n (by omega)).1
      have lt := tV_lt hV (show n < 10 by omega)
      have ec : em_c T D (n + 1) = decide (tP T n ≠ 0 ∧ pa_up (tP T n) = D) := by unfold em_c; rw [show n + 1 - 1 = n by omega]
      have en : em_n T (n + 1) = pa_last (tP T n) := by unfold em_n; rw [show n + 1 - 1 = n by omega]
      have nx := ih (n + 1)
      rw [tr_mx, ec, en, show 10 + (n + 1) = 10 + n + 1 by omega] at nx
      have hmx : tr_mx (em_c T D) (em_n T) n ≤ 31 := by
        rcases (tr_mx_spec (f := em_c T D) (g := em_n T) n).2 with q | ⟨s, s1, s2, s3, s4⟩
        · omega
        · have b := of_decide_eq_true s3
          rw [← s4]
          exact (pa_split (tV_ok hV (show s - 1 < 10 by omega) b.1) b.1).2.2.2.2
      generalize tr_mx (em_c T D) (em_n T) n = mx at *
      have no : ¬ (tP T n ≠ 0 ∧ pa_up (tP T n) = D) → pm_W xs 2 mM_greatest 33 [.ref o, .int (nI D), .int (nI mx), .int (nI (10 + n)), v4] [] h Q := by
        intro c
        rw [if_neg (fun z => c (of_decide_eq_true z.1))] at nx
        (iterate 1 (first | refine pm_W.ts rfl rfl ?_ | refine pm_W.tl rfl rfl ?_))
        refine pm_W.goto rfl ?_
        (repeat (first | refine pm_W.ts rfl rfl ?_ | refine pm_W.tl rfl rfl ?_))
        refine pm_W.icmp rfl (fun _ => ?_) (fun z => ?_)
        · (repeat (first | refine pm_W.ts rfl rfl ?_ | refine pm_W.tl rfl rfl ?_))
          refine pm_W.goto rfl ?_
          rw [fr_inc]
          exact nx _ (by omega)
        · have z : ¬ nI 0 ≤ nI mx := z
          rw [nI_leI (by omega) (by omega)] at z
          omega
      (repeat (first | refine pm_W.ts rfl rfl ?_ | refine pm_W.tl rfl rfl ?_))
      refine pm_W.icmp rfl (fun z => ?_) (fun _ => ?_)
      · have z : nI 20 ≤ nI (10 + n) := z
        rw [nI_leI (by omega) (by omega)] at z
        omega
      · (repeat (first | refine pm_W.ts rfl rfl ?_ | refine pm_W.tl rfl rfl ?_ | refine pm_W.get rfl rfl h1 rfl ?_))
        refine mr_ld (i := 3) (k := 10 + n) hb rfl rfl rfl rfl (show 10 + n < 20 by omega) ?_
        rw [ea]
        refine pm_W.ifz rfl (fun c2 => ?_) (fun c2 => ?_)
        · have c2 : nI (tP T n) = nI 0 := c2
          rw [nI_eq (by omega) (by omega)] at c2
          exact no (fun z => z.1 c2)
        · have c2 : ¬ nI (tP T n) = nI 0 := c2
          rw [nI_eq (by omega) (by omega)] at c2
          have hok := tV_ok hV (show n < 10 by omega) c2
          have hup : pa_up (tP T n) < 2 ^ 30 := pa_ok_30 (pa_split hok c2).2.2.1
          have hl31 := (pa_split hok c2).2.2.2.2
          (repeat (first | refine pm_W.ts rfl rfl ?_ | refine pm_W.tl rfl rfl ?_ | refine pm_W.get rfl rfl h1 rfl ?_))
          refine mr_ld (i := 3) (k := 10 + n) hb rfl rfl rfl rfl (show 10 + n < 20 by omega) ?_
          rw [ea]
          refine pm_W.callS (d' := 1) rfl rfl rfl rfl (fr_ble rfl) (fr_ble rfl) (ct_M_up (by omega) (pa_d_pos hok c2) ?_)
          (repeat (first | refine pm_W.ts rfl rfl ?_ | refine pm_W.tl rfl rfl ?_))
          refine pm_W.icmp rfl (fun c3 => ?_) (fun c3 => ?_)
          · have c3 : nI (pa_up (tP T n)) = nI D := c3
            rw [nI_eq (by omega) (by omega)] at c3
            have hd := (bh_split hok c2).1
            rw [c3] at hd
            have hd6 := (pa_d_spec (tP T n)).1
            have e2 : nI (tP T n) >>> ((nI 5 * nI (pa_d D)) &&& 31) = nI (pa_last (tP T n)) := by
              rw [fr_mul, fr_shr (by omega) (by omega), show pa_d D = pa_d (tP T n) - 1 by omega, pa_last_div hok c2]
            (repeat (first | refine pm_W.ts rfl rfl ?_ | refine pm_W.tl rfl rfl ?_ | refine pm_W.get rfl rfl h1 rfl ?_))
            refine mr_ld (i := 3) (k := 10 + n) hb rfl rfl rfl rfl (show 10 + n < 20 by omega) ?_
            rw [ea]
            (iterate 2 (first | refine pm_W.ts rfl rfl ?_ | refine pm_W.tl rfl rfl ?_))
            refine pm_W.callS (d' := 0) rfl rfl rfl rfl (fr_ble rfl) (fr_ble rfl) (ct_M_depth (by omega) ?_)
            (iterate 2 (first | refine pm_W.ts rfl rfl ?_ | refine pm_W.tl rfl rfl ?_))
            show pm_W xs 2 mM_greatest _ _ [.int (nI (tP T n) >>> ((nI 5 * nI (pa_d D)) &&& 31))] h Q
            rw [e2]
            (repeat (first | refine pm_W.ts rfl rfl ?_ | refine pm_W.tl rfl rfl ?_))
            refine pm_W.icmp rfl (fun c4 => ?_) (fun c4 => ?_)
            · have c4 : nI (pa_last (tP T n)) ≤ nI mx := c4
              rw [nI_leI (by omega) (by omega)] at c4
              rw [if_neg (fun z => absurd z.2 (Nat.not_lt.mpr c4))] at nx
              (repeat (first | refine pm_W.ts rfl rfl ?_ | refine pm_W.tl rfl rfl ?_))
              refine pm_W.goto rfl ?_
              rw [fr_inc]
              exact nx _ (by omega)
            · have c4 : ¬ nI (pa_last (tP T n)) ≤ nI mx := c4
              rw [nI_leI (by omega) (by omega)] at c4
              rw [if_pos ⟨decide_eq_true ⟨c2, c3⟩, Nat.lt_of_not_le c4⟩] at nx
              (iterate 1 (first | refine pm_W.ts rfl rfl ?_ | refine pm_W.tl rfl rfl ?_))
              refine pm_W.goto rfl ?_
              (repeat (first | refine pm_W.ts rfl rfl ?_ | refine pm_W.tl rfl rfl ?_))
              refine pm_W.goto rfl ?_
              rw [fr_inc]
              exact nx _ (by omega)
          · have c3 : ¬ nI (pa_up (tP T n)) = nI D := c3
            rw [nI_eq (by omega) (by omega)] at c3
            exact no (fun z => c3 z.2)
  unfold pm_X
  (iterate 4 (first | refine pm_W.ts rfl rfl ?_ | refine pm_W.tl rfl rfl ?_))
  exact loop 10 0 _ (by omega)
theorem ct_M_entry {n D p : Nat} (hb : mr_R h o A I) (hm : mt A 10 T) (hmo : mo A I ws) (hV : uk_V T n D) (hn : n < 10) (hd : pa_d D ≤ 5) (hp : p < ws.length) (hby : rd_by ws) (hie : rd_ie ws p)
    (k1 : ¬ uk_nm ws T D p → Q (some (.int (-1 - nI (p + 1)))) h)
    (k2 : uk_nm ws T D p → rd_w ws p = 1 → ¬ uk_ln ws T p → Q (some (.int (-1 - nI (p + 2)))) h)
    (k3 : uk_nm ws T D p → rd_w ws p = 1 → uk_ln ws T p → ¬ p + 3 + rd_w ws (p + 2) ≤ ws.length → Q (some (.int (-1 - nI ws.length))) h)
    (kD : uk_nm ws T D p → rd_w ws p = 2 → ∀ (g : pm_H) (B : Nat → List Int32), mr_R g o B I → mt B 10 (fr_up T n (uk_x D (rd_w ws (p + 1)), 2, [])) → ut_ag A B → fr_ag o (o + 15) h g → Q (some (.int (nI (p + 2)))) g)
    (kF : uk_nm ws T D p → rd_w ws p = 1 → uk_ln ws T p → p + 3 + rd_w ws (p + 2) ≤ ws.length → ∀ (g : pm_H) (B : Nat → List Int32), mr_R g o B I → mt B 10 (fr_up T n (uk_x D (rd_w ws (p + 1)), 1, rd_bs ws p)) → ut_ag A B → fr_ag o (o + 15) h g → Q (some (.int (nI (p + 3 + rd_w ws (p + 2))))) g) :
    pm_X xs 3 mM_entry [.ref o, .int (nI p), .int (nI D), .int (nI (10 + n)), .int (nI (te_fb T))] h Q := by
  have h1 := hb.1
  obtain ⟨v1, v2, v3, v4, v5, v6⟩ := id hV
  have hD30 := pa_ok_30 v6
  have hDl := pa_ok_lt v6
  have l120 := hmo.2.1
  have h80 := v1.2.2
  have hl0 := rd_lt hby p
  have hl1 := rd_lt hby (p + 1)
  have hl2 := rd_lt hby (p + 2)
  have g31 := gr_31 (D := D) v1
  have bad1 : ¬ uk_nm ws T D p → ∀ w5 v6 v7 v8 : Value, pm_W xs 3 mM_entry 32 [.ref o, .int (nI p), .int (nI D), .int (nI (10 + n)), .int (nI (te_fb T)), w5, v6, v7, v8] [] h Q := by
    intro c w5 v6 v7 v8
    have q := k1 c
    rw [← fr_neg2 (by omega)] at q
    (repeat (first | refine pm_W.ts rfl rfl ?_ | refine pm_W.tl rfl rfl ?_))
    exact pm_W.iret rfl rfl q
  have fill : ∀ (v e : Nat) (bs : List Int32), rd_w ws p = v → uk_nm ws T D p → bs.length ≤ 16 → (∀ t, t < bs.length → p + 3 + t < ws.length ∧ nI (rd_w ws (p + 3 + t)) = bs.getD t 0) → (∀ (g : pm_H) (B : Nat → List Int32), mr_R g o B I → mt B 10 (fr_up T n (uk_x D (rd_w ws (p + 1)), v, bs)) → ut_ag A B → fr_ag o (o + 15) h g → Q (some (.int (nI e))) g) → ∀ v8 : Value, pm_W xs 3 mM_entry 125 [.ref o, .int (nI p), .int (nI D), .int (nI (10 + n)), .int (nI (te_fb T)), .int (nI (rd_w ws (p + 1))), .int (nI bs.length), .int (nI e), v8] [] h Q := by
    intro v e bs hv hnm hb16 hbs kk v8
    have loop : ∀ (r t : Nat) (g : pm_H) (B : Nat → List Int32), t + r = bs.length → mr_R g o B I → (∀ j, j ≠ 6 → B j = A j) → (∀ u, u < 16 * (10 + n) ∨ 16 * (10 + n) + 16 ≤ u → (B 6).getD u 0 = (A 6).getD u 0) → (∀ u, u < t → (B 6).getD (16 * (10 + n) + u) 0 = bs.getD u 0) → fr_ag o (o + 15) h g → pm_W xs 3 mM_entry 128 [.ref o, .int (nI p), .int (nI D), .int (nI (10 + n)), .int (nI (te_fb T)), .int (nI (rd_w ws (p + 1))), .int (nI bs.length), .int (nI e), .int (nI t)] [] g Q := by
      intro r
      induction r with
      | zero =>
        intro t g B ht hB hr hu1 hu2 hag
        have t1 := hB.1
        have et : t = bs.length := by omega
        have m3 : (A 3).length = 20 := hb.len (i := 3) rfl rfl
        have m4 : (A 4).length = 20 := hb.len (i := 4) rfl rfl
        have m5 : (A 5).length = 20 := hb.len (i := 5) rfl rfl
        (repeat (first | refine pm_W.ts rfl rfl ?_ | refine pm_W.tl rfl rfl ?_))
        refine pm_W.icmp rfl (fun _ => ?_) (fun z => ?_)
        · (repeat (first | refine pm_W.ts rfl rfl ?_ | refine pm_W.tl rfl rfl ?_ | refine pm_W.get rfl rfl t1 rfl ?_))
          refine pm_W.callS (d' := 0) rfl rfl rfl rfl (fr_ble rfl) (fr_ble rfl) (ct_M_depth (by omega) ?_)
          (repeat (first | refine pm_W.ts rfl rfl ?_ | refine pm_W.tl rfl rfl ?_))
          have ex : nI D ||| (nI (rd_w ws (p + 1)) <<< ((nI 5 * nI (pa_d D)) &&& 31)) = nI (uk_x D (rd_w ws (p + 1))) := by
            rw [fr_mul, fr_shl (by omega), fr_orx hDl]
            rfl
          show pm_W xs 3 mM_entry _ _ [.int (nI D ||| (nI (rd_w ws (p + 1)) <<< ((nI 5 * nI (pa_d D)) &&& 31))), .int (nI (10 + n)), .ref (o + 3)] g Q
          rw [ex]
          refine mr_st (i := 3) (k := 10 + n) hB rfl rfl rfl rfl (show 10 + n < 20 by omega) (fun g2 hB2 a2 => ?_)
          rw [hr 3 (by omega)] at hB2
          have t2 := hB2.1
          have hmo2 : mo (fr_up B 3 ((A 3).set (10 + n) (nI (uk_x D (rd_w ws (p + 1)))))) I ws := mo_rows hmo (by rw [fr_up_n (by omega), hr 1 (by omega)])
          (repeat (first | refine pm_W.ts rfl rfl ?_ | refine pm_W.tl rfl rfl ?_ | refine pm_W.get rfl rfl t2 rfl ?_))
          refine pm_W.callV (d' := 0) (as := [.int (nI p)]) rfl rfl rfl rfl (fr_ble rfl) t2 (fr_ble rfl) (ct_M_byteAt hB2 hmo2 (by omega) (fun _ => ?_) (fun z => absurd hp z))
          rw [hv]
          refine mr_st (i := 4) (k := 10 + n) hB2 rfl rfl rfl rfl (show 10 + n < 20 by omega) (fun g3 hB3 a3 => ?_)
          rw [fr_up_n (show 4 ≠ 3 by omega), hr 4 (by omega)] at hB3
          have t3 := hB3.1
          (repeat (first | refine pm_W.ts rfl rfl ?_ | refine pm_W.tl rfl rfl ?_ | refine pm_W.get rfl rfl t3 rfl ?_))
          refine mr_st (i := 5) (k := 10 + n) hB3 rfl rfl rfl rfl (show 10 + n < 20 by omega) (fun g4 hB4 a4 => ?_)
          rw [fr_up_n (show 5 ≠ 4 by omega), fr_up_n (show 5 ≠ 3 by omega), hr 5 (by omega)] at hB4
          (iterate 1 (first | refine pm_W.ts rfl rfl ?_ | refine pm_W.tl rfl rfl ?_))
          have c3 : fr_up (fr_up (fr_up B 3 ((A 3).set (10 + n) (nI (uk_x D (rd_w ws (p + 1)))))) 4 ((A 4).set (10 + n) (nI v))) 5 ((A 5).set (10 + n) (nI bs.length)) 3 = (A 3).set (10 + n) (nI (uk_x D (rd_w ws (p + 1)))) := by rw [fr_up_n (by omega), fr_up_n (by omega), fr_up_s]
          have c4 : fr_up (fr_up (fr_up B 3 ((A 3).set (10 + n) (nI (uk_x D (rd_w ws (p + 1)))))) 4 ((A 4).set (10 + n) (nI v))) 5 ((A 5).set (10 + n) (nI bs.length)) 4 = (A 4).set (10 + n) (nI v) := by rw [fr_up_n (by omega), fr_up_s]
          have c5 : fr_up (fr_up (fr_up B 3 ((A 3).set (10 + n) (nI (uk_x D (rd_w ws (p + 1)))))) 4 ((A 4).set (10 + n) (nI v))) 5 ((A 5).set (10 + n) (nI bs.length)) 5 = (A 5).set (10 + n) (nI bs.length) := by rw [fr_up_s]
          have co : ∀ j, j ≠ 3 → j ≠ 4 → j ≠ 5 → fr_up (fr_up (fr_up B 3 ((A 3).set (10 + n) (nI (uk_x D (rd_w ws (p + 1)))))) 4 ((A 4).set (10 + n) (nI v))) 5 ((A 5).set (10 + n) (nI bs.length)) j = B j := fun j n3 n4 n5 => by rw [fr_up_n n5, fr_up_n n4, fr_up_n n3]
          refine pm_W.iret rfl rfl (kk g4 _ hB4 (mt_new hm v1 hn m3 m4 m5 c3 c4 c5 (fun u hu => by rw [co 6 (by omega) (by omega) (by omega)]; exact hu1 u hu) (fun u hu => by rw [co 6 (by omega) (by omega) (by omega)]; exact hu2 u (by omega))) ⟨fun j n3 n4 n5 n6 => by rw [co j n3 n4 n5, hr j n6], fun r u r1 r2 hu => ?_, fun u hu => by rw [co 6 (by omega) (by omega) (by omega)]; exact hu1 u (by omega)⟩ (((hag.tr a2).tr a3).tr a4))
          have : r = 3 ∨ r = 4 ∨ r = 5 := by omega
          rcases this with e | e | e
          · rw [e, c3, fr_gn (by omega)]
          · rw [e, c4, fr_gn (by omega)]
          · rw [e, c5, fr_gn (by omega)]
        · have z : ¬ nI bs.length ≤ nI t := z
          rw [nI_leI (by omega) (by omega)] at z
          omega
      | succ r ih =>
        intro t g B ht hB hr hu1 hu2 hag
        have t1 := hB.1
        have m6 : (B 6).length = 320 := hB.len (i := 6) rfl rfl
        obtain ⟨b1, b2⟩ := hbs t (by omega)
        (repeat (first | refine pm_W.ts rfl rfl ?_ | refine pm_W.tl rfl rfl ?_))
        refine pm_W.icmp rfl (fun z => ?_) (fun _ => ?_)
        · have z : nI bs.length ≤ nI t := z
          rw [nI_leI (by omega) (by omega)] at z
          omega
        · (repeat (first | refine pm_W.ts rfl rfl ?_ | refine pm_W.tl rfl rfl ?_ | refine pm_W.get rfl rfl t1 rfl ?_))
          show pm_W xs 3 mM_entry _ _ [.int (nI p + nI 3 + nI t), .ref o, .int (nI 16 * nI (10 + n) + nI t), .ref (o + 6)] g Q
          rw [nI_add, nI_add, fr_mul, nI_add]
          refine pm_W.callV (d' := 0) (as := [.int (nI (p + 3 + t))]) rfl rfl rfl rfl (fr_ble rfl) t1 (fr_ble rfl) (ct_M_byteAt hB (mo_rows hmo (hr 1 (by omega))) (by omega) (fun _ => ?_) (fun z => absurd b1 z))
          rw [b2]
          refine mr_st (i := 6) (k := 16 * (10 + n) + t) hB rfl rfl rfl rfl (show 16 * (10 + n) + t < 320 by omega) (fun g2 hB2 a2 => ?_)
          (iterate 1 (first | refine pm_W.ts rfl rfl ?_ | refine pm_W.tl rfl rfl ?_))
          refine pm_W.goto rfl ?_
          rw [fr_inc]
          refine ih (t + 1) g2 _ (by omega) hB2 (fun j hj => by rw [fr_up_n hj]; exact hr j hj) (fun u hu => by rw [fr_up_s, fr_gn (by omega)]; exact hu1 u hu) (fun u hu => ?_) (hag.tr a2)
          rw [fr_up_s]
          by_cases cu : u = t
          · rw [cu, fr_gs (by omega)]
          · rw [fr_gn (by omega)]
            exact hu2 u (by omega)
    (iterate 2 (first | refine pm_W.ts rfl rfl ?_ | refine pm_W.tl rfl rfl ?_))
    exact loop bs.length 0 h A (by omega) hb (fun _ _ => rfl) (fun _ _ => rfl) (fun u hu => absurd hu (Nat.not_lt_zero _)) fr_ag.rf
  unfold pm_X
  (iterate 4 (first | refine pm_W.ts rfl rfl ?_ | refine pm_W.tl rfl rfl ?_))
  rw [fr_inc]
  refine pm_W.callV (d' := 0) (as := [.int (nI (p + 1))]) rfl rfl rfl rfl (fr_ble rfl) h1 (fr_ble rfl) (ct_M_byteAt hb hmo (by omega) (fun hp1 => ?_) (fun hp1 => ?_))
  · (repeat (first | refine pm_W.ts rfl rfl ?_ | refine pm_W.tl rfl rfl ?_))
    refine pm_W.icmp rfl (fun c => ?_) (fun c => ?_)
    · have c : nI (rd_w ws (p + 1)) < nI 1 := c
      rw [nI_ltI (by omega) (by omega)] at c
      exact bad1 (fun z => by have := z.2.1; omega) _ _ _ _
    · have c : ¬ nI (rd_w ws (p + 1)) < nI 1 := c
      rw [nI_ltI (by omega) (by omega)] at c
      (repeat (first | refine pm_W.ts rfl rfl ?_ | refine pm_W.tl rfl rfl ?_))
      refine pm_W.icmp rfl (fun d => ?_) (fun d => ?_)
      · have d : nI 31 < nI (rd_w ws (p + 1)) := d
        rw [nI_ltI (by omega) (by omega)] at d
        exact bad1 (fun z => by have := z.2.2; omega) _ _ _ _
      · have d : ¬ nI 31 < nI (rd_w ws (p + 1)) := d
        rw [nI_ltI (by omega) (by omega)] at d
        (repeat (first | refine pm_W.ts rfl rfl ?_ | refine pm_W.tl rfl rfl ?_))
        refine pm_W.callV (d' := 2) (as := [.int (nI D)]) rfl rfl rfl rfl (fr_ble rfl) h1 (fr_ble rfl) (ct_M_greatest hb hm v1 v6 ?_)
        refine pm_W.icmp rfl (fun e => ?_) (fun e => ?_)
        · have e : nI (gr T D) < nI (rd_w ws (p + 1)) := e
          rw [nI_ltI (by omega) (by omega)] at e
          have hnm : uk_nm ws T D p := ⟨hp1, e, by omega⟩
          (iterate 2 (first | refine pm_W.ts rfl rfl ?_ | refine pm_W.tl rfl rfl ?_))
          refine pm_W.callV (d' := 0) (as := [.int (nI p)]) rfl rfl rfl rfl (fr_ble rfl) h1 (fr_ble rfl) (ct_M_byteAt hb hmo (by omega) (fun _ => ?_) (fun z => absurd hp z))
          (iterate 1 (first | refine pm_W.ts rfl rfl ?_ | refine pm_W.tl rfl rfl ?_))
          refine pm_W.icmp rfl (fun f => ?_) (fun f => ?_)
          · have f : ¬ nI (rd_w ws p) = nI 2 := f
            rw [nI_eq (by omega) (by omega)] at f
            have f1 : rd_w ws p = 1 := by unfold rd_ie at hie; omega
            have bad2 : ¬ uk_ln ws T p → ∀ w6 v7 v8 : Value, pm_W xs 3 mM_entry 81 [.ref o, .int (nI p), .int (nI D), .int (nI (10 + n)), .int (nI (te_fb T)), .int (nI (rd_w ws (p + 1))), w6, v7, v8] [] h Q := by
              intro c w6 v7 v8
              have q := k2 hnm f1 c
              rw [← fr_neg3 (by omega)] at q
              (repeat (first | refine pm_W.ts rfl rfl ?_ | refine pm_W.tl rfl rfl ?_))
              exact pm_W.iret rfl rfl q
            (iterate 4 (first | refine pm_W.ts rfl rfl ?_ | refine pm_W.tl rfl rfl ?_))
            show pm_W xs 3 mM_entry _ _ [.int (nI p + nI 2), .ref o] h Q
            rw [nI_add]
            refine pm_W.callV (d' := 0) (as := [.int (nI (p + 2))]) rfl rfl rfl rfl (fr_ble rfl) h1 (fr_ble rfl) (ct_M_byteAt hb hmo (by omega) (fun hp2 => ?_) (fun hp2 => ?_))
            · (iterate 2 (first | refine pm_W.ts rfl rfl ?_ | refine pm_W.tl rfl rfl ?_))
              refine pm_W.ifz rfl (fun z => absurd z (nI_pos (by omega))) (fun _ => ?_)
              (repeat (first | refine pm_W.ts rfl rfl ?_ | refine pm_W.tl rfl rfl ?_))
              refine pm_W.icmp rfl (fun g => ?_) (fun g => ?_)
              · have g : nI 16 < nI (rd_w ws (p + 2)) := g
                rw [nI_ltI (by omega) (by omega)] at g
                exact bad2 (fun z => by have := z.2.1; omega) _ _ _
              · have g : ¬ nI 16 < nI (rd_w ws (p + 2)) := g
                rw [nI_ltI (by omega) (by omega)] at g
                (repeat (first | refine pm_W.ts rfl rfl ?_ | refine pm_W.tl rfl rfl ?_))
                rw [nI_add]
                refine pm_W.icmp rfl (fun i => ?_) (fun i => ?_)
                · have i : nI (te_fb T + rd_w ws (p + 2)) ≤ nI 80 := i
                  rw [nI_leI (by omega) (by omega)] at i
                  have hln : uk_ln ws T p := ⟨hp2, by omega, i⟩
                  (iterate 2 (first | refine pm_W.ts rfl rfl ?_ | refine pm_W.tl rfl rfl ?_))
                  refine pm_W.callV (d' := 0) (as := [.int (nI p)]) rfl rfl rfl rfl (fr_ble rfl) h1 (fr_ble rfl) (ct_M_byteAt hb hmo (by omega) (fun _ => ?_) (fun z => absurd hp z))
                  (iterate 1 (first | refine pm_W.ts rfl rfl ?_ | refine pm_W.tl rfl rfl ?_))
                  refine pm_W.icmp rfl (fun _ => ?_) (fun z => ?_)
                  · (iterate 5 (first | refine pm_W.ts rfl rfl ?_ | refine pm_W.tl rfl rfl ?_))
                    show pm_W xs 3 mM_entry _ _ [.int (nI p + nI 3 + nI (rd_w ws (p + 2)))] h Q
                    rw [nI_add, nI_add]
                    (repeat (first | refine pm_W.ts rfl rfl ?_ | refine pm_W.tl rfl rfl ?_ | refine pm_W.get rfl rfl h1 rfl ?_))
                    rw [hmo.1]
                    refine pm_W.icmp rfl (fun j => ?_) (fun j => ?_)
                    · have j : nI (p + 3 + rd_w ws (p + 2)) ≤ nI ws.length := j
                      rw [nI_leI (by omega) (by omega)] at j
                      have bl := rd_bs_len j
                      have := fill 1 (p + 3 + rd_w ws (p + 2)) (rd_bs ws p) f1 hnm (by omega) (fun t ht => ⟨by omega, (rd_bs_at (by omega)).symm⟩) (kF hnm f1 hln j)
                      rw [bl] at this
                      exact this _
                    · have j : ¬ nI (p + 3 + rd_w ws (p + 2)) ≤ nI ws.length := j
                      rw [nI_leI (by omega) (by omega)] at j
                      (repeat (first | refine pm_W.ts rfl rfl ?_ | refine pm_W.tl rfl rfl ?_ | refine pm_W.get rfl rfl h1 rfl ?_))
                      rw [hmo.1]
                      exact pm_W.iret rfl rfl (k3 hnm f1 hln j)
                  · have z : ¬ ¬ nI (rd_w ws p) = nI 2 := z
                    rw [nI_eq (by omega) (by omega)] at z
                    exact absurd f z
                · have i : ¬ nI (te_fb T + rd_w ws (p + 2)) ≤ nI 80 := i
                  rw [nI_leI (by omega) (by omega)] at i
                  exact bad2 (fun z => by have := z.2.2; omega) _ _ _
            · (iterate 2 (first | refine pm_W.ts rfl rfl ?_ | refine pm_W.tl rfl rfl ?_))
              refine pm_W.ifz rfl (fun _ => ?_) (fun z => absurd (show (-1 : Int32) < 0 by decide) z)
              exact bad2 (fun z => hp2 z.1) _ _ _
          · have f : ¬ ¬ nI (rd_w ws p) = nI 2 := f
            rw [nI_eq (by omega) (by omega)] at f
            have f2 : rd_w ws p = 2 := Decidable.not_not.mp f
            (iterate 1 (first | refine pm_W.ts rfl rfl ?_ | refine pm_W.tl rfl rfl ?_))
            refine pm_W.goto rfl ?_
            (iterate 2 (first | refine pm_W.ts rfl rfl ?_ | refine pm_W.tl rfl rfl ?_))
            refine pm_W.ifz rfl (fun z => absurd (show (0 : Int32) < 0 from z) (by decide)) (fun _ => ?_)
            (repeat (first | refine pm_W.ts rfl rfl ?_ | refine pm_W.tl rfl rfl ?_))
            refine pm_W.icmp rfl (fun z => absurd (show nI 16 < nI 0 from z) (by decide)) (fun _ => ?_)
            (repeat (first | refine pm_W.ts rfl rfl ?_ | refine pm_W.tl rfl rfl ?_))
            show pm_W xs 3 mM_entry _ _ [.int (nI 80), .int (nI (te_fb T) + nI 0)] h Q
            rw [nI_add]
            refine pm_W.icmp rfl (fun _ => ?_) (fun i => ?_)
            · (iterate 2 (first | refine pm_W.ts rfl rfl ?_ | refine pm_W.tl rfl rfl ?_))
              refine pm_W.callV (d' := 0) (as := [.int (nI p)]) rfl rfl rfl rfl (fr_ble rfl) h1 (fr_ble rfl) (ct_M_byteAt hb hmo (by omega) (fun _ => ?_) (fun z => absurd hp z))
              (iterate 1 (first | refine pm_W.ts rfl rfl ?_ | refine pm_W.tl rfl rfl ?_))
              refine pm_W.icmp rfl (fun z => ?_) (fun _ => ?_)
              · have z : ¬ nI (rd_w ws p) = nI 2 := z
                rw [nI_eq (by omega) (by omega)] at z
                exact absurd f2 z
              · (iterate 3 (first | refine pm_W.ts rfl rfl ?_ | refine pm_W.tl rfl rfl ?_))
                show pm_W xs 3 mM_entry _ _ [.int (nI p + nI 2)] h Q
                rw [nI_add]
                refine pm_W.goto rfl ?_
                (repeat (first | refine pm_W.ts rfl rfl ?_ | refine pm_W.tl rfl rfl ?_ | refine pm_W.get rfl rfl h1 rfl ?_))
                rw [hmo.1]
                refine pm_W.icmp rfl (fun _ => ?_) (fun j => ?_)
                · exact fill 2 (p + 2) [] f2 hnm (by show 0 ≤ 16; omega) (fun t ht => absurd ht (Nat.not_lt_zero _)) (kD hnm f2) _
                · have j : ¬ nI (p + 2) ≤ nI ws.length := j
                  rw [nI_leI (by omega) (by omega)] at j
                  omega
            · have i : ¬ nI (te_fb T + 0) ≤ nI 80 := i
              rw [nI_leI (by omega) (by omega)] at i
              omega
        · have e : ¬ nI (gr T D) < nI (rd_w ws (p + 1)) := e
          rw [nI_ltI (by omega) (by omega)] at e
          exact bad1 (fun z => e z.2.1) _ _ _ _
  · (repeat (first | refine pm_W.ts rfl rfl ?_ | refine pm_W.tl rfl rfl ?_))
    refine pm_W.icmp rfl (fun _ => ?_) (fun z => absurd (show (-1 : Int32) < nI 1 by decide) z)
    exact bad1 (fun z => hp1 z.1) _ _ _ _
end MREAD
