theorem mta_inc {I : Nat → Int32} {ta : List Nat} {i : Nat} (hm : mta I ta) (h4 : ta.length = 4) (hi : i < 4) : mta (fr_up I (7 + i) (nI (ta.getD i 0 + 1))) (ta_inc ta i) := by
  intro j hj
  unfold ta_inc
  rw [fr_setD (by omega)]
  by_cases c : j = i
  · rw [c, fr_up_s, if_pos rfl]
  · rw [fr_up_n (by omega), if_neg c]
    exact hm j hj
theorem ta_inc_len {ta : List Nat} {i : Nat} (h4 : ta.length = 4) : (ta_inc ta i).length = 4 := by
  unfold ta_inc
  rw [List.length_set]
  exact h4
theorem kp_put_len {L : dp_K} {w : Int32} {bs : List Int32} (h : L.length ≤ 6) : (kp_put 6 L w bs).length ≤ 6 := by
  unfold kp_put
  cases ex_kp L w with
  | some i => show (L.set i _).length ≤ 6; rw [List.length_set]; exact h
  | none =>
    show (kp_room 6 L ++ [(w, bs)]).length ≤ 6
    rw [List.length_append, List.length_singleton]
    unfold kp_room
    by_cases c : L.length = 6
    · rw [if_pos c, List.length_eraseIdx_of_lt (by omega)]
      omega
    · rw [if_neg c]
      omega
theorem fr_un_at {bs : List Int32} {t : Nat} (ht : t < bs.length) : nI ((bs.map fr_un).getD t 0) = bs.getD t 0 := by
  rw [List.getD_eq_getElem?_getD, List.getElem?_map, List.getD_eq_getElem?_getD, List.getElem?_eq_getElem ht]
  exact fr_un_nI _
theorem mk_q0 {A B : Nat → List Int32} {L : dp_K} (hm : mk A (40 * 0) L) (hl : L.length ≤ 40) (hq : mq_ag 1 A B) : mk B (40 * 0) L := by
  intro j hj
  obtain ⟨q1, q2, q3, q4⟩ := hm j hj
  rw [hq.2.1 13 _ (Or.inl rfl) (by omega), hq.2.1 14 _ (Or.inr rfl) (by omega)]
  refine ⟨q1, q2, q3, fun t ht => ?_⟩
  rw [hq.2.2 _ (by omega)]
  exact q4 t ht
section MSOURCE
variable {xs : List Int32} {h : pm_H} {o : Nat} {A : Nat → List Int32} {I : Nat → Int32} {ps : dp_P} {st ca : dp_K} {sd : Nat → List Int32 × dp_P} {ws ta : List Nat} {Q : Option Value → pm_H → Prop}
theorem ct_M_goodN {w n : Int32} (k : Q (some (.int 0)) h) : pm_X xs 1 mM_good [.ref o, .int (-1), .int w, .int n] h Q := by
  unfold pm_X
  (iterate 1 (first | refine pm_W.ts rfl rfl ?_ | refine pm_W.tl rfl rfl ?_))
  refine pm_W.ifz rfl (fun _ => ?_) (fun z => absurd (show (-1 : Int32) < 0 by decide) z)
  (iterate 1 (first | refine pm_W.ts rfl rfl ?_ | refine pm_W.tl rfl rfl ?_))
  exact pm_W.iret rfl rfl k
theorem ct_M_source {i k : Nat} (hb : mr_R h o A I) (hP : ml A (1 + i) ps) (hv : pl_V ps 117) (hk : k < ps.length) (hi : i < 4) (hst : mk A (40 * 0) st) (h5 : I 5 = nI st.length) (l5 : st.length ≤ 40) (hca : mk A (40 * 1) ca) (h6 : I 6 = nI ca.length) (l6 : ca.length ≤ 6) (hse : mse A sd) (hsd : sd_V sd) (hws : ws.length = pl_s ps k) (hS : mb A 120 (ws.map nI)) (hta : mta I ta) (ht4 : ta.length = 4)
    (k1 : ∀ (ca' : dp_K) (r ta' : List Nat) (f : Nat), ex_one ps st sd ca ws ta k = (some (ca', ws ++ r), ta') → r.length = ex_n ps k → ta'.length = 4 → ∀ (g : pm_H) (B : Nat → List Int32) (J : Nat → Int32), mr_R g o B J → mta J ta' → J 6 = nI ca'.length → ca'.length ≤ 6 → (∀ j, j < 6 → J j = I j) → mk B (40 * 1) ca' → mq_ag 1 A B → f + ex_n ps k ≤ 1952 → (f + ex_n ps k ≤ 120 + ws.length ∨ 240 ≤ f) → (∀ t, t < ex_n ps k → (B 1).getD (f + t) 0 = nI (r.getD t 0)) → fr_ag o (o + 15) h g → Q (some (.int (nI f))) g)
    (k0 : ∀ ta' : List Nat, ex_one ps st sd ca ws ta k = (none, ta') → ta'.length = 4 → ∀ (g : pm_H) (J : Nat → Int32), mr_R g o A J → mta J ta' → (∀ j, j < 7 → J j = I j) → fr_ag o (o + 15) h g → Q (some (.int (-1))) g) :
    pm_X xs 3 mM_source [.ref o, .int (nI (1 + i)), .int (nI k)] h Q := by
  have h1 := hb.1
  obtain ⟨p1, p2, p3⟩ := hP
  obtain ⟨x8, x9, x10⟩ := p3 k hk
  obtain ⟨w1, w2, w3⟩ := hv k hk
  have exk : ex_n ps k = pl_e ps k - pl_s ps k := rfl
  have ask : ex_again ps k = none → ex_good ca (pl_i ps k) (ex_n ps k) = none → ex_sd sd (pl_i ps k) (ex_n ps k) 2 = none → ∀ (v4 v5 v6 v7 : Value) (c4 : Int32), v4 = .int c4 → pm_W xs 3 mM_source 270 [.ref o, .int (nI (1 + i)), .int (nI k), .int (nI (16 * (1 + i) + k)), v4, v5, v6, v7] [] h Q := by
    intro e1 e2 e3 v4 v5 v6 v7 c4 hv4
    subst hv4
    have eo : ex_one ps st sd ca ws ta k = ex_ask st ca ws ta (pl_i ps k) (ex_n ps k) := by unfold ex_one; rw [e1]; show (match ex_good ca _ _ with | some p => _ | none => _) = _; rw [e2]; show (match ex_sd sd _ _ 2 with | some bs => _ | none => _) = _; rw [e3]
    have a0 : I 7 = nI (ta.getD 0 0) := hta 0 (by omega)
    (iterate 3 (first | refine pm_W.ts rfl rfl ?_ | refine pm_W.tl rfl rfl ?_ | refine pm_W.get rfl rfl h1 rfl ?_))
    rw [a0]
    (iterate 2 (first | refine pm_W.ts rfl rfl ?_ | refine pm_W.tl rfl rfl ?_))
    rw [fr_inc]
    refine mr_pt 7 hb rfl rfl rfl rfl (Or.inl rfl) (fun g1 hB1 a1 => ?_)
    have m1 := mta_inc hta ht4 (show 0 < 4 by omega)
    have t1 := hB1.1
    have j5 : fr_up I 7 (nI (ta.getD 0 0 + 1)) 5 = nI st.length := by rw [fr_up_n (by omega)]; exact h5
    have j6 : fr_up I 7 (nI (ta.getD 0 0 + 1)) 6 = nI ca.length := by rw [fr_up_n (by omega)]; exact h6
    (repeat (first | refine pm_W.ts rfl rfl ?_ | refine pm_W.tl rfl rfl ?_ | refine pm_W.get rfl rfl t1 rfl ?_))
    refine mr_ld (i := 10) (k := 16 * (1 + i) + k) hB1 rfl rfl rfl rfl (show 16 * (1 + i) + k < 112 by omega) ?_
    rw [x10]
    refine pm_W.callV (d' := 0) (as := [.int (nI 0), .int (pl_i ps k)]) rfl rfl rfl rfl (fr_ble rfl) t1 (fr_ble rfl) (ct_M_find (q := 0) hB1 hst (Or.inl ⟨rfl, j5, l5⟩) (fun j he hj => ?_) (fun he => ?_))
    · obtain ⟨s1, s2, s3, s4⟩ := hst j hj
      (repeat (first | refine pm_W.ts rfl rfl ?_ | refine pm_W.tl rfl rfl ?_ | refine pm_W.get rfl rfl t1 rfl ?_))
      refine mr_ld (i := 10) (k := 16 * (1 + i) + k) hB1 rfl rfl rfl rfl (show 16 * (1 + i) + k < 112 by omega) ?_
      rw [x10]
      (repeat (first | refine pm_W.ts rfl rfl ?_ | refine pm_W.tl rfl rfl ?_ | refine pm_W.get rfl rfl t1 rfl ?_))
      refine mr_ld (i := 9) (k := 16 * (1 + i) + k) hB1 rfl rfl rfl rfl (show 16 * (1 + i) + k < 112 by omega) ?_
      rw [x9]
      refine pm_W.callV (d' := 1) (as := [.int (nI (40 * 0 + j)), .int (pl_i ps k), .int (nI (ex_n ps k))]) rfl rfl rfl rfl (fr_ble rfl) t1 (fr_ble rfl) (ct_M_good (b := 40 * 0) hB1 hst hj (by omega) (by omega) ?_)
      by_cases c : (kp_b st j).length = ex_n ps k ∧ bt_id (kp_b st j) 0 (ex_n ps k) = pl_i ps k
      · rw [fr_bt (decide_eq_true c)]
        have eg : ex_good st (pl_i ps k) (ex_n ps k) = some j := by unfold ex_good; rw [he]; show (if _ then _ else _) = _; rw [if_pos c]
        have ea : ex_one ps st sd ca ws ta k = (some (kp_put 6 ca (pl_i ps k) (kp_b st j), ws ++ (kp_b st j).map fr_un), ta_inc ta 0) := by rw [eo]; unfold ex_ask; rw [eg]
        refine pm_W.ifz rfl (fun _ => ?_) (fun z => absurd (show ¬ (1 : Int32) = 0 by decide) z)
        (repeat (first | refine pm_W.ts rfl rfl ?_ | refine pm_W.tl rfl rfl ?_ | refine pm_W.get rfl rfl t1 rfl ?_))
        refine mr_ld (i := 10) (k := 16 * (1 + i) + k) hB1 rfl rfl rfl rfl (show 16 * (1 + i) + k < 112 by omega) ?_
        rw [x10]
        (repeat (first | refine pm_W.ts rfl rfl ?_ | refine pm_W.tl rfl rfl ?_ | refine pm_W.get rfl rfl t1 rfl ?_))
        show pm_W xs 3 mM_source _ _ [.int (nI (16 * (1 + i) + k)), .ref (o + 9), .int (nI 480 + nI 32 * nI (40 * 0 + j)), .int (pl_i ps k), .ref o] g1 Q
        rw [fr_mul, nI_add]
        refine mr_ld (i := 9) (k := 16 * (1 + i) + k) hB1 rfl rfl rfl rfl (show 16 * (1 + i) + k < 112 by omega) ?_
        rw [x9, ← c.1]
        refine pm_W.callV (d' := 2) (as := [.int (pl_i ps k), .int (nI (480 + 32 * (40 * 0 + j))), .int (nI (kp_b st j).length)]) rfl rfl rfl rfl (fr_ble rfl) t1 (fr_ble rfl) (ct_M_enter hB1 hca j6 l6 s3 s4 (by omega) (fun g2 B2 hB2 b1 b2 a2 => ?_))
        (repeat (first | refine pm_W.ts rfl rfl ?_ | refine pm_W.tl rfl rfl ?_))
        show pm_W xs 3 mM_source _ _ [.int (nI 480 + nI 32 * nI (40 * 0 + j))] g2 Q
        rw [fr_mul, nI_add]
        refine pm_W.iret rfl rfl (k1 _ _ _ (480 + 32 * (40 * 0 + j)) ea (by rw [List.length_map]; exact c.1) (ta_inc_len ht4) g2 B2 _ hB2 (fun t ht => ?_) fr_up_s (kp_put_len l6) (fun t ht => ?_) b1 b2 (by omega) (by omega) (fun t ht => ?_) (a1.tr a2))
        · rw [fr_up_n (by omega)]
          exact m1 t ht
        · rw [fr_up_n (by omega), fr_up_n (by omega)]
        · rw [fr_un_at (by omega), b2.2.2 _ (by omega)]
          exact s4 t (by omega)
      · rw [fr_bf (decide_eq_false c)]
        have eg : ex_good st (pl_i ps k) (ex_n ps k) = none := by unfold ex_good; rw [he]; show (if _ then _ else _) = _; rw [if_neg c]
        refine pm_W.ifz rfl (fun z => absurd rfl z) (fun _ => ?_)
        (iterate 1 (first | refine pm_W.ts rfl rfl ?_ | refine pm_W.tl rfl rfl ?_))
        refine pm_W.iret rfl rfl (k0 (ta_inc ta 0) (by rw [eo]; unfold ex_ask; rw [eg]) (ta_inc_len ht4) g1 _ hB1 m1 (fun t ht => fr_up_n (by omega)) a1)
    · have eg : ex_good st (pl_i ps k) (ex_n ps k) = none := by unfold ex_good; rw [he]
      (repeat (first | refine pm_W.ts rfl rfl ?_ | refine pm_W.tl rfl rfl ?_ | refine pm_W.get rfl rfl t1 rfl ?_))
      refine mr_ld (i := 10) (k := 16 * (1 + i) + k) hB1 rfl rfl rfl rfl (show 16 * (1 + i) + k < 112 by omega) ?_
      rw [x10]
      (repeat (first | refine pm_W.ts rfl rfl ?_ | refine pm_W.tl rfl rfl ?_ | refine pm_W.get rfl rfl t1 rfl ?_))
      refine mr_ld (i := 9) (k := 16 * (1 + i) + k) hB1 rfl rfl rfl rfl (show 16 * (1 + i) + k < 112 by omega) ?_
      rw [x9]
      refine pm_W.callV (d' := 1) (as := [.int (-1), .int (pl_i ps k), .int (nI (ex_n ps k))]) rfl rfl rfl rfl (fr_ble rfl) t1 (fr_ble rfl) (ct_M_goodN ?_)
      refine pm_W.ifz rfl (fun z => absurd rfl z) (fun _ => ?_)
      (iterate 1 (first | refine pm_W.ts rfl rfl ?_ | refine pm_W.tl rfl rfl ?_))
      refine pm_W.iret rfl rfl (k0 (ta_inc ta 0) (by rw [eo]; unfold ex_ask; rw [eg]) (ta_inc_len ht4) g1 _ hB1 m1 (fun t ht => fr_up_n (by omega)) a1)
  have seeds : ex_again ps k = none → ex_good ca (pl_i ps k) (ex_n ps k) = none → ∀ (r s : Nat) (c4 : Int32) (v6 v7 : Value), s + r = 2 → ex_sd sd (pl_i ps k) (ex_n ps k) 2 = ex_sd sd (pl_i ps k) (ex_n ps k) r → pm_W xs 3 mM_source 135 [.ref o, .int (nI (1 + i)), .int (nI k), .int (nI (16 * (1 + i) + k)), .int c4, .int (nI s), v6, v7] [] h Q := by
    intro e1 e2 r
    induction r with
    | zero =>
      intro s c4 v6 v7 hs he
      have s2 : s = 2 := by omega
      subst s2
      (repeat (first | refine pm_W.ts rfl rfl ?_ | refine pm_W.tl rfl rfl ?_))
      refine pm_W.icmp rfl (fun _ => ask e1 e2 he _ _ _ _ _ rfl) (fun z => ?_)
      have z : ¬ nI 2 ≤ nI 2 := z
      rw [nI_leI (by omega) (by omega)] at z
      omega
    | succ r ih =>
      intro s c4 v6 v7 hs he
      obtain ⟨z1, z2, z3, z4, z5, z6⟩ := hse s (by omega)
      obtain ⟨vok, vpl⟩ := hsd s (by omega)
      have er : 1 - r = s := by omega
      rw [show ex_sd sd (pl_i ps k) (ex_n ps k) (r + 1) = (match ex_seed (sd (1 - r)) (pl_i ps k) (ex_n ps k) with | some i => some (bt_sub (sd (1 - r)).1 (pl_s (sd (1 - r)).2 i) (ex_n ps k)) | none => ex_sd sd (pl_i ps k) (ex_n ps k) r) from rfl, er] at he
      have inner : ∀ (q j : Nat) (v7 : Value), j + q = (sd s).2.length → (∀ t, t < j → (decide (pl_i (sd s).2 t = pl_i ps k) && (decide (pl_n (sd s).2 t = nI (ex_n ps k)) && decide (bt_id (sd s).1 (nI (pl_s (sd s).2 t)) (ex_n ps k) = pl_i ps k))) = false) → pm_W xs 3 mM_source 150 [.ref o, .int (nI (1 + i)), .int (nI k), .int (nI (16 * (1 + i) + k)), .int c4, .int (nI s), .int (nI (16 * (5 + s) + j)), v7] [] h Q := by
        intro q
        induction q with
        | zero =>
          intro j v7 hj hno
          have ej : j = (sd s).2.length := by omega
          have en : ex_seed (sd s) (pl_i ps k) (ex_n ps k) = none := fr_find_no (fun t ht => hno t (by omega))
          rw [en] at he
          (repeat (first | refine pm_W.ts rfl rfl ?_ | refine pm_W.tl rfl rfl ?_ | refine pm_W.get rfl rfl h1 rfl ?_))
          show pm_W xs 3 mM_source _ _ [.int (nI 5 + nI s), .ref (o + 7), .int (nI 16 * (nI 5 + nI s)), .int (nI (16 * (5 + s) + j))] h Q
          rw [nI_add, fr_mul]
          refine mr_ld (i := 7) (k := 5 + s) hb rfl rfl rfl rfl (show 5 + s < 7 by omega) ?_
          rw [z4]
          (iterate 1 (first | refine pm_W.ts rfl rfl ?_ | refine pm_W.tl rfl rfl ?_))
          rw [nI_add]
          refine pm_W.icmp rfl (fun _ => ?_) (fun y => ?_)
          · (iterate 1 (first | refine pm_W.ts rfl rfl ?_ | refine pm_W.tl rfl rfl ?_))
            refine pm_W.goto rfl ?_
            rw [fr_inc]
            exact ih (s + 1) c4 _ _ (by omega) he
          · have y : ¬ nI (16 * (5 + s) + (sd s).2.length) ≤ nI (16 * (5 + s) + j) := y
            rw [nI_leI (by omega) (by omega)] at y
            omega
        | succ q ih2 =>
          intro j v7 hj hno
          obtain ⟨y8, y9, y10⟩ := z6 j (by omega)
          obtain ⟨u1, u2, u3⟩ := vpl j (by omega)
          have exj : ex_n (sd s).2 j = pl_e (sd s).2 j - pl_s (sd s).2 j := rfl
          have plj := ex_n_eq vpl (show j < (sd s).2.length by omega)
          have next : (decide (pl_i (sd s).2 j = pl_i ps k) && (decide (pl_n (sd s).2 j = nI (ex_n ps k)) && decide (bt_id (sd s).1 (nI (pl_s (sd s).2 j)) (ex_n ps k) = pl_i ps k))) = false → ∀ v7 : Value, pm_W xs 3 mM_source 258 [.ref o, .int (nI (1 + i)), .int (nI k), .int (nI (16 * (1 + i) + k)), .int c4, .int (nI s), .int (nI (16 * (5 + s) + j)), v7] [] h Q := by
            intro hf v7
            (iterate 1 (first | refine pm_W.ts rfl rfl ?_ | refine pm_W.tl rfl rfl ?_))
            refine pm_W.goto rfl ?_
            rw [fr_inc]
            exact ih2 (j + 1) v7 (by omega) (fun t ht => by
              by_cases ct : t = j
              · rw [ct]; exact hf
              · exact hno t (by omega))
          (repeat (first | refine pm_W.ts rfl rfl ?_ | refine pm_W.tl rfl rfl ?_ | refine pm_W.get rfl rfl h1 rfl ?_))
          show pm_W xs 3 mM_source _ _ [.int (nI 5 + nI s), .ref (o + 7), .int (nI 16 * (nI 5 + nI s)), .int (nI (16 * (5 + s) + j))] h Q
          rw [nI_add, fr_mul]
          refine mr_ld (i := 7) (k := 5 + s) hb rfl rfl rfl rfl (show 5 + s < 7 by omega) ?_
          rw [z4]
          (iterate 1 (first | refine pm_W.ts rfl rfl ?_ | refine pm_W.tl rfl rfl ?_))
          rw [nI_add]
          refine pm_W.icmp rfl (fun y => ?_) (fun _ => ?_)
          · have y : nI (16 * (5 + s) + (sd s).2.length) ≤ nI (16 * (5 + s) + j) := y
            rw [nI_leI (by omega) (by omega)] at y
            omega
          · (repeat (first | refine pm_W.ts rfl rfl ?_ | refine pm_W.tl rfl rfl ?_ | refine pm_W.get rfl rfl h1 rfl ?_))
            show pm_W xs 3 mM_source _ _ [.int (nI (16 * (5 + s) + j)), .ref (o + 8), .int (nI 240 + nI 120 * nI s)] h Q
            rw [fr_mul, nI_add]
            refine mr_ld (i := 8) (k := 16 * (5 + s) + j) hb rfl rfl rfl rfl (show 16 * (5 + s) + j < 112 by omega) ?_
            rw [y8]
            (iterate 1 (first | refine pm_W.ts rfl rfl ?_ | refine pm_W.tl rfl rfl ?_))
            rw [nI_add]
            (repeat (first | refine pm_W.ts rfl rfl ?_ | refine pm_W.tl rfl rfl ?_ | refine pm_W.get rfl rfl h1 rfl ?_))
            refine mr_ld (i := 10) (k := 16 * (5 + s) + j) hb rfl rfl rfl rfl (show 16 * (5 + s) + j < 112 by omega) ?_
            rw [y10]
            (repeat (first | refine pm_W.ts rfl rfl ?_ | refine pm_W.tl rfl rfl ?_ | refine pm_W.get rfl rfl h1 rfl ?_))
            refine mr_ld (i := 10) (k := 16 * (1 + i) + k) hb rfl rfl rfl rfl (show 16 * (1 + i) + k < 112 by omega) ?_
            rw [x10]
            refine pm_W.icmp rfl (fun d => ?_) (fun d => ?_)
            · have d : ¬ pl_i (sd s).2 j = pl_i ps k := d
              exact next (by rw [decide_eq_false d]; rfl) _
            · have d : ¬ ¬ pl_i (sd s).2 j = pl_i ps k := d
              have d := Decidable.not_not.mp d
              (repeat (first | refine pm_W.ts rfl rfl ?_ | refine pm_W.tl rfl rfl ?_ | refine pm_W.get rfl rfl h1 rfl ?_))
              refine mr_ld (i := 9) (k := 16 * (5 + s) + j) hb rfl rfl rfl rfl (show 16 * (5 + s) + j < 112 by omega) ?_
              rw [y9]
              (repeat (first | refine pm_W.ts rfl rfl ?_ | refine pm_W.tl rfl rfl ?_ | refine pm_W.get rfl rfl h1 rfl ?_))
              refine mr_ld (i := 9) (k := 16 * (1 + i) + k) hb rfl rfl rfl rfl (show 16 * (1 + i) + k < 112 by omega) ?_
              rw [x9]
              refine pm_W.icmp rfl (fun d2 => ?_) (fun d2 => ?_)
              · have d2 : ¬ nI (ex_n (sd s).2 j) = nI (ex_n ps k) := d2
                exact next (by rw [plj, decide_eq_false d2, Bool.false_and, Bool.and_false]) _
              · have d2 : ¬ ¬ nI (ex_n (sd s).2 j) = nI (ex_n ps k) := d2
                have d2 := Decidable.not_not.mp d2
                have d3 : ex_n (sd s).2 j = ex_n ps k := by rw [nI_eq (by omega) (by omega)] at d2; exact d2
                (repeat (first | refine pm_W.ts rfl rfl ?_ | refine pm_W.tl rfl rfl ?_ | refine pm_W.get rfl rfl h1 rfl ?_))
                refine mr_ld (i := 9) (k := 16 * (5 + s) + j) hb rfl rfl rfl rfl (show 16 * (5 + s) + j < 112 by omega) ?_
                rw [y9]
                refine pm_W.callV (d' := 0) (as := [.int (nI (240 + 120 * s + pl_s (sd s).2 j)), .int (nI (ex_n (sd s).2 j))]) rfl rfl rfl rfl (fr_ble rfl) h1 (fr_ble rfl) (ct_M_digest (bs := (sd s).1) hb z3 (by omega) (by omega) (by omega) ?_)
                (repeat (first | refine pm_W.ts rfl rfl ?_ | refine pm_W.tl rfl rfl ?_ | refine pm_W.get rfl rfl h1 rfl ?_))
                refine mr_ld (i := 10) (k := 16 * (1 + i) + k) hb rfl rfl rfl rfl (show 16 * (1 + i) + k < 112 by omega) ?_
                rw [x10, d3]
                refine pm_W.icmp rfl (fun d4 => ?_) (fun d4 => ?_)
                · have d4 : ¬ bt_id (sd s).1 (nI (pl_s (sd s).2 j)) (ex_n ps k) = pl_i ps k := d4
                  exact next (by rw [decide_eq_false d4, Bool.and_false, Bool.and_false]) _
                · have d4 : ¬ ¬ bt_id (sd s).1 (nI (pl_s (sd s).2 j)) (ex_n ps k) = pl_i ps k := d4
                  have d4 := Decidable.not_not.mp d4
                  have es : ex_seed (sd s) (pl_i ps k) (ex_n ps k) = some j := fr_find_is (by omega) (by rw [plj, d2, decide_eq_true d, decide_eq_true (show nI (ex_n ps k) = nI (ex_n ps k) from rfl), decide_eq_true d4]; rfl) (fun t ht => hno t ht)
                  rw [es] at he
                  have eo : ex_one ps st sd ca ws ta k = (some (ca, ws ++ (bt_sub (sd s).1 (pl_s (sd s).2 j) (ex_n ps k)).map fr_un), ta_inc ta 2) := by unfold ex_one; rw [e1]; show (match ex_good ca _ _ with | some p => _ | none => _) = _; rw [e2]; show (match ex_sd sd _ _ 2 with | some bs => _ | none => _) = _; rw [he]
                  have a2 : I 9 = nI (ta.getD 2 0) := hta 2 (by omega)
                  have sl := bt_sub_len (bs := (sd s).1) (s := pl_s (sd s).2 j) (n := ex_n ps k) (by omega)
                  (iterate 3 (first | refine pm_W.ts rfl rfl ?_ | refine pm_W.tl rfl rfl ?_ | refine pm_W.get rfl rfl h1 rfl ?_))
                  rw [a2]
                  (iterate 2 (first | refine pm_W.ts rfl rfl ?_ | refine pm_W.tl rfl rfl ?_))
                  rw [fr_inc]
                  refine mr_pt 9 hb rfl rfl rfl rfl (Or.inl rfl) (fun g1 hB1 a1 => ?_)
                  (iterate 1 (first | refine pm_W.ts rfl rfl ?_ | refine pm_W.tl rfl rfl ?_))
                  refine pm_W.iret rfl rfl (k1 _ _ _ (240 + 120 * s + pl_s (sd s).2 j) eo (by rw [List.length_map]; exact sl) (ta_inc_len ht4) g1 A _ hB1 (mta_inc hta ht4 (show 2 < 4 by omega)) (by rw [fr_up_n (by omega)]; exact h6) l6 (fun t ht => fr_up_n (by omega)) hca mq_ag.rf (by omega) (by omega) (fun t ht => ?_) a1)
                  rw [fr_un_at (by omega), bt_sub_at ht, show 240 + 120 * s + pl_s (sd s).2 j + t = 240 + 120 * s + (pl_s (sd s).2 j + t) by omega]
                  exact z3 _ (by omega)
      (repeat (first | refine pm_W.ts rfl rfl ?_ | refine pm_W.tl rfl rfl ?_))
      refine pm_W.icmp rfl (fun z => ?_) (fun _ => ?_)
      · have z : nI 2 ≤ nI s := z
        rw [nI_leI (by omega) (by omega)] at z
        omega
      · (iterate 5 (first | refine pm_W.ts rfl rfl ?_ | refine pm_W.tl rfl rfl ?_))
        show pm_W xs 3 mM_source _ _ [.int (nI 16 * (nI 5 + nI s))] h Q
        rw [nI_add, fr_mul]
        (iterate 1 (first | refine pm_W.ts rfl rfl ?_ | refine pm_W.tl rfl rfl ?_))
        exact inner (sd s).2.length 0 _ (by omega) (fun t ht => absurd ht (Nat.not_lt_zero _))
  have cache : ex_again ps k = none → ∀ (c4 : Int32) (v5 v6 v7 : Value), pm_W xs 3 mM_source 78 [.ref o, .int (nI (1 + i)), .int (nI k), .int (nI (16 * (1 + i) + k)), .int c4, v5, v6, v7] [] h Q := by
    intro e1 c4 v5 v6 v7
    (repeat (first | refine pm_W.ts rfl rfl ?_ | refine pm_W.tl rfl rfl ?_ | refine pm_W.get rfl rfl h1 rfl ?_))
    refine mr_ld (i := 10) (k := 16 * (1 + i) + k) hb rfl rfl rfl rfl (show 16 * (1 + i) + k < 112 by omega) ?_
    rw [x10]
    refine pm_W.callV (d' := 0) (as := [.int (nI 1), .int (pl_i ps k)]) rfl rfl rfl rfl (fr_ble rfl) h1 (fr_ble rfl) (ct_M_find (q := 1) hb hca (Or.inr ⟨rfl, h6, l6⟩) (fun j he hj => ?_) (fun he => ?_))
    · obtain ⟨s1, s2, s3, s4⟩ := hca j hj
      (repeat (first | refine pm_W.ts rfl rfl ?_ | refine pm_W.tl rfl rfl ?_ | refine pm_W.get rfl rfl h1 rfl ?_))
      refine mr_ld (i := 10) (k := 16 * (1 + i) + k) hb rfl rfl rfl rfl (show 16 * (1 + i) + k < 112 by omega) ?_
      rw [x10]
      (repeat (first | refine pm_W.ts rfl rfl ?_ | refine pm_W.tl rfl rfl ?_ | refine pm_W.get rfl rfl h1 rfl ?_))
      refine mr_ld (i := 9) (k := 16 * (1 + i) + k) hb rfl rfl rfl rfl (show 16 * (1 + i) + k < 112 by omega) ?_
      rw [x9]
      refine pm_W.callV (d' := 1) (as := [.int (nI (40 * 1 + j)), .int (pl_i ps k), .int (nI (ex_n ps k))]) rfl rfl rfl rfl (fr_ble rfl) h1 (fr_ble rfl) (ct_M_good (b := 40 * 1) hb hca hj (by omega) (by omega) ?_)
      by_cases c : (kp_b ca j).length = ex_n ps k ∧ bt_id (kp_b ca j) 0 (ex_n ps k) = pl_i ps k
      · rw [fr_bt (decide_eq_true c)]
        have eg : ex_good ca (pl_i ps k) (ex_n ps k) = some j := by unfold ex_good; rw [he]; show (if _ then _ else _) = _; rw [if_pos c]
        have eo : ex_one ps st sd ca ws ta k = (some (ca, ws ++ (kp_b ca j).map fr_un), ta_inc ta 1) := by unfold ex_one; rw [e1]; show (match ex_good ca _ _ with | some p => _ | none => _) = _; rw [eg]
        have a0 : I 8 = nI (ta.getD 1 0) := hta 1 (by omega)
        refine pm_W.ifz rfl (fun z => absurd (show (1 : Int32) = 0 from z) (by decide)) (fun _ => ?_)
        (iterate 3 (first | refine pm_W.ts rfl rfl ?_ | refine pm_W.tl rfl rfl ?_ | refine pm_W.get rfl rfl h1 rfl ?_))
        rw [a0]
        (iterate 2 (first | refine pm_W.ts rfl rfl ?_ | refine pm_W.tl rfl rfl ?_))
        rw [fr_inc]
        refine mr_pt 8 hb rfl rfl rfl rfl (Or.inl rfl) (fun g1 hB1 a1 => ?_)
        (repeat (first | refine pm_W.ts rfl rfl ?_ | refine pm_W.tl rfl rfl ?_))
        show pm_W xs 3 mM_source _ _ [.int (nI 480 + nI 32 * nI (40 * 1 + j))] g1 Q
        rw [fr_mul, nI_add]
        refine pm_W.iret rfl rfl (k1 _ _ _ (480 + 32 * (40 * 1 + j)) eo (by rw [List.length_map]; exact c.1) (ta_inc_len ht4) g1 A _ hB1 (mta_inc hta ht4 (show 1 < 4 by omega)) (by rw [fr_up_n (by omega)]; exact h6) l6 (fun t ht => fr_up_n (by omega)) hca mq_ag.rf (by omega) (by omega) (fun t ht => ?_) a1)
        rw [fr_un_at (by omega)]
        exact s4 t (by omega)
      · rw [fr_bf (decide_eq_false c)]
        have eg : ex_good ca (pl_i ps k) (ex_n ps k) = none := by unfold ex_good; rw [he]; show (if _ then _ else _) = _; rw [if_neg c]
        refine pm_W.ifz rfl (fun _ => ?_) (fun z => absurd rfl z)
        (iterate 2 (first | refine pm_W.ts rfl rfl ?_ | refine pm_W.tl rfl rfl ?_))
        exact seeds e1 eg 2 0 _ _ _ (by omega) rfl
    · have eg : ex_good ca (pl_i ps k) (ex_n ps k) = none := by unfold ex_good; rw [he]
      (repeat (first | refine pm_W.ts rfl rfl ?_ | refine pm_W.tl rfl rfl ?_ | refine pm_W.get rfl rfl h1 rfl ?_))
      refine mr_ld (i := 10) (k := 16 * (1 + i) + k) hb rfl rfl rfl rfl (show 16 * (1 + i) + k < 112 by omega) ?_
      rw [x10]
      (repeat (first | refine pm_W.ts rfl rfl ?_ | refine pm_W.tl rfl rfl ?_ | refine pm_W.get rfl rfl h1 rfl ?_))
      refine mr_ld (i := 9) (k := 16 * (1 + i) + k) hb rfl rfl rfl rfl (show 16 * (1 + i) + k < 112 by omega) ?_
      rw [x9]
      refine pm_W.callV (d' := 1) (as := [.int (-1), .int (pl_i ps k), .int (nI (ex_n ps k))]) rfl rfl rfl rfl (fr_ble rfl) h1 (fr_ble rfl) (ct_M_goodN ?_)
      refine pm_W.ifz rfl (fun _ => ?_) (fun z => absurd rfl z)
      (iterate 2 (first | refine pm_W.ts rfl rfl ?_ | refine pm_W.tl rfl rfl ?_))
      exact seeds e1 eg 2 0 _ _ _ (by omega) rfl
  have again : ∀ (q j : Nat) (v5 v6 v7 : Value), j + q = k → (∀ t, t < j → (decide (pl_i ps t = pl_i ps k) && decide (pl_n ps t = pl_n ps k)) = false) → pm_W xs 3 mM_source 13 [.ref o, .int (nI (1 + i)), .int (nI k), .int (nI (16 * (1 + i) + k)), .int (nI (16 * (1 + i) + j)), v5, v6, v7] [] h Q := by
    have plk := ex_n_eq hv hk
    intro q
    induction q with
    | zero =>
      intro j v5 v6 v7 hj hno
      have ej : j = k := by omega
      subst ej
      (repeat (first | refine pm_W.ts rfl rfl ?_ | refine pm_W.tl rfl rfl ?_))
      refine pm_W.icmp rfl (fun _ => cache (fr_find_no hno) _ _ _ _) (fun z => ?_)
      have z : ¬ nI (16 * (1 + i) + j) ≤ nI (16 * (1 + i) + j) := z
      rw [nI_leI (by omega) (by omega)] at z
      omega
    | succ q ih =>
      intro j v5 v6 v7 hj hno
      obtain ⟨y8, y9, y10⟩ := p3 j (by omega)
      obtain ⟨u1, u2, u3⟩ := hv j (by omega)
      have exj : ex_n ps j = pl_e ps j - pl_s ps j := rfl
      have plj := ex_n_eq hv (show j < ps.length by omega)
      have mono := pl_mono' hv (show j < k by omega) hk
      have next : (decide (pl_i ps j = pl_i ps k) && decide (pl_n ps j = pl_n ps k)) = false → pm_W xs 3 mM_source 72 [.ref o, .int (nI (1 + i)), .int (nI k), .int (nI (16 * (1 + i) + k)), .int (nI (16 * (1 + i) + j)), v5, v6, v7] [] h Q := by
        intro hf
        (iterate 1 (first | refine pm_W.ts rfl rfl ?_ | refine pm_W.tl rfl rfl ?_))
        refine pm_W.goto rfl ?_
        rw [fr_inc]
        exact ih (j + 1) v5 v6 v7 (by omega) (fun t ht => by
          by_cases ct : t = j
          · rw [ct]; exact hf
          · exact hno t (by omega))
      (repeat (first | refine pm_W.ts rfl rfl ?_ | refine pm_W.tl rfl rfl ?_))
      refine pm_W.icmp rfl (fun z => ?_) (fun _ => ?_)
      · have z : nI (16 * (1 + i) + k) ≤ nI (16 * (1 + i) + j) := z
        rw [nI_leI (by omega) (by omega)] at z
        omega
      · (repeat (first | refine pm_W.ts rfl rfl ?_ | refine pm_W.tl rfl rfl ?_ | refine pm_W.get rfl rfl h1 rfl ?_))
        refine mr_ld (i := 10) (k := 16 * (1 + i) + j) hb rfl rfl rfl rfl (show 16 * (1 + i) + j < 112 by omega) ?_
        rw [y10]
        (repeat (first | refine pm_W.ts rfl rfl ?_ | refine pm_W.tl rfl rfl ?_ | refine pm_W.get rfl rfl h1 rfl ?_))
        refine mr_ld (i := 10) (k := 16 * (1 + i) + k) hb rfl rfl rfl rfl (show 16 * (1 + i) + k < 112 by omega) ?_
        rw [x10]
        refine pm_W.icmp rfl (fun d => ?_) (fun d => ?_)
        · have d : ¬ pl_i ps j = pl_i ps k := d
          exact next (by rw [decide_eq_false d, Bool.false_and])
        · have d : ¬ ¬ pl_i ps j = pl_i ps k := d
          have d := Decidable.not_not.mp d
          (repeat (first | refine pm_W.ts rfl rfl ?_ | refine pm_W.tl rfl rfl ?_ | refine pm_W.get rfl rfl h1 rfl ?_))
          refine mr_ld (i := 9) (k := 16 * (1 + i) + j) hb rfl rfl rfl rfl (show 16 * (1 + i) + j < 112 by omega) ?_
          rw [y9]
          (repeat (first | refine pm_W.ts rfl rfl ?_ | refine pm_W.tl rfl rfl ?_ | refine pm_W.get rfl rfl h1 rfl ?_))
          refine mr_ld (i := 9) (k := 16 * (1 + i) + k) hb rfl rfl rfl rfl (show 16 * (1 + i) + k < 112 by omega) ?_
          rw [x9]
          refine pm_W.icmp rfl (fun d2 => ?_) (fun d2 => ?_)
          · have d2 : ¬ nI (ex_n ps j) = nI (ex_n ps k) := d2
            exact next (by rw [plj, plk, decide_eq_false d2, Bool.and_false])
          · have d2 : ¬ ¬ nI (ex_n ps j) = nI (ex_n ps k) := d2
            have d2 := Decidable.not_not.mp d2
            have d3 : ex_n ps j = ex_n ps k := by rw [nI_eq (by omega) (by omega)] at d2; exact d2
            have ea : ex_again ps k = some j := fr_find_is (by omega) (by rw [plj, plk, d2, decide_eq_true d, decide_eq_true (show nI (ex_n ps k) = nI (ex_n ps k) from rfl)]; rfl) hno
            have eo : ex_one ps st sd ca ws ta k = (some (ca, ws ++ (ws.drop (pl_s ps j)).take (ex_n ps k)), ta_inc ta 3) := by unfold ex_one; rw [ea]
            have a0 : I 10 = nI (ta.getD 3 0) := hta 3 (by omega)
            (iterate 3 (first | refine pm_W.ts rfl rfl ?_ | refine pm_W.tl rfl rfl ?_ | refine pm_W.get rfl rfl h1 rfl ?_))
            rw [a0]
            (iterate 2 (first | refine pm_W.ts rfl rfl ?_ | refine pm_W.tl rfl rfl ?_))
            rw [fr_inc]
            refine mr_pt 10 hb rfl rfl rfl rfl (Or.inl rfl) (fun g1 hB1 a1 => ?_)
            have t1 := hB1.1
            (repeat (first | refine pm_W.ts rfl rfl ?_ | refine pm_W.tl rfl rfl ?_ | refine pm_W.get rfl rfl t1 rfl ?_))
            refine mr_ld (i := 8) (k := 16 * (1 + i) + j) hB1 rfl rfl rfl rfl (show 16 * (1 + i) + j < 112 by omega) ?_
            rw [y8]
            (iterate 1 (first | refine pm_W.ts rfl rfl ?_ | refine pm_W.tl rfl rfl ?_))
            show pm_W xs 3 mM_source _ _ [.int (nI 120 + nI (pl_s ps j))] g1 Q
            rw [nI_add]
            refine pm_W.iret rfl rfl (k1 _ _ _ (120 + pl_s ps j) eo (by rw [List.length_take, List.length_drop]; omega) (ta_inc_len ht4) g1 A _ hB1 (mta_inc hta ht4 (show 3 < 4 by omega)) (by rw [fr_up_n (by omega)]; exact h6) l6 (fun t ht => fr_up_n (by omega)) hca mq_ag.rf (by omega) (by omega) (fun t ht => ?_) a1)
            have q := hS (pl_s ps j + t) (by rw [List.length_map]; omega)
            rw [← Nat.add_assoc] at q
            rw [q, fr_mapD]
            congr 1
            rw [List.getD_eq_getElem?_getD, List.getD_eq_getElem?_getD, List.getElem?_take, if_pos ht, List.getElem?_drop]
  unfold pm_X
  (iterate 5 (first | refine pm_W.ts rfl rfl ?_ | refine pm_W.tl rfl rfl ?_))
  show pm_W xs 3 mM_source _ _ [.int (nI 16 * nI (1 + i) + nI k)] h Q
  rw [fr_mul, nI_add]
  (iterate 4 (first | refine pm_W.ts rfl rfl ?_ | refine pm_W.tl rfl rfl ?_))
  show pm_W xs 3 mM_source _ _ [.int (nI 16 * nI (1 + i))] h Q
  rw [fr_mul]
  (iterate 1 (first | refine pm_W.ts rfl rfl ?_ | refine pm_W.tl rfl rfl ?_))
  exact again k 0 _ _ _ (by omega) (fun t ht => absurd ht (Nat.not_lt_zero _))
end MSOURCE
