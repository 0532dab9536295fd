section MMAKE2
variable {xs : List Int32} {h : pm_H} {o : Nat} {A : Nat → List Int32} {I : Nat → Int32} {st : dp_K} {P : dp_P} {os : List Int32} {im : Nat → dp_P} {T : te_T} {z : cz_N} {Q : Option Value → pm_H → Prop}
theorem ct_M_makeB {i : Nat} {A0 : Nat → List Int32} {h0 : pm_H} (hi : i < 4) (hV : pl_V P os.length) (hl : os.length ≤ 117) (hfit : st.length + dp_new P st P.length ≤ 40) (hPn : P.length ≤ 15)
    (kk : ∀ (g : pm_H) (B : Nat → List Int32), mr_R g o B (fr_up I 5 (nI (ms_go P os st P.length).length)) → mk B (40 * 0) (ms_go P os st P.length) → (B 7).getD (1 + i) 0 = nI P.length → (B 11).getD i 0 = 1 → (∀ t, t < P.length → (B 8).getD (16 * (1 + i) + t) 0 = nI (pl_s P t) ∧ (B 9).getD (16 * (1 + i) + t) 0 = nI (ex_n P t) ∧ (B 10).getD (16 * (1 + i) + t) 0 = pl_i P t) → mm_ag i A0 B → fr_ag o (o + 15) h0 g → Q (some (.int (nI i))) g) :
    ∀ (r k : Nat) (c2 : Int32) (v4 v5 : Value) (g : pm_H) (B : Nat → List Int32), k + r = P.length → mr_R g o B (fr_up I 5 (nI (ms_go P os st k).length)) → mk B (40 * 0) (ms_go P os st k) → mb B 0 os → ml B 0 P → (B 7).getD (1 + i) 0 = nI P.length → (B 11).getD i 0 = 1 → (∀ t, t < k → (B 8).getD (16 * (1 + i) + t) 0 = nI (pl_s P t) ∧ (B 9).getD (16 * (1 + i) + t) 0 = nI (ex_n P t) ∧ (B 10).getD (16 * (1 + i) + t) 0 = pl_i P t) → mm_ag i A0 B → fr_ag o (o + 15) h0 g → pm_W xs 4 mM_make 178 [.ref o, .int (nI i), .int c2, .int (nI k), v4, v5] [] g Q := by
  intro r
  induction r with
  | zero =>
    intro k c2 v4 v5 g B hk hB hkB hS hP h7 h11 hrow hmm hag
    have e : k = P.length := by omega
    subst e
    have t1 := hB.1
    (repeat (first | refine pm_W.ts rfl rfl ?_ | refine pm_W.tl rfl rfl ?_ | refine pm_W.get rfl rfl t1 rfl ?_))
    refine mr_ld (i := 7) (k := 0) hB rfl rfl rfl rfl (show 0 < 7 by omega) ?_
    rw [hP.1]
    refine pm_W.icmp rfl (fun _ => ?_) (fun y => ?_)
    · (iterate 1 (first | refine pm_W.ts rfl rfl ?_ | refine pm_W.tl rfl rfl ?_))
      exact pm_W.iret rfl rfl (kk g B hB hkB h7 h11 hrow hmm hag)
    · have y : ¬ nI P.length ≤ nI P.length := y
      rw [nI_leI (by omega) (by omega)] at y
      omega
  | succ r ih =>
    intro k c2 v4 v5 g B hk hB hkB hS hP h7 h11 hrow hmm hag
    have t1 := hB.1
    obtain ⟨p1, p2, p3⟩ := hP
    obtain ⟨q8, q9, q10⟩ := p3 k (by omega)
    rw [show 16 * 0 + k = k by omega] at q8 q9 q10
    obtain ⟨w1, w2, w3⟩ := hV k (by omega)
    have lenk := ms_len (ps := P) (os := os) (st := st) k (by omega)
    have m8 : (B 8).length = 112 := hB.len (i := 8) rfl rfl
    have m9 : (B 9).length = 112 := hB.len (i := 9) rfl rfl
    have m10 : (B 10).length = 112 := hB.len (i := 10) rfl rfl
    have exn : ex_n P k = pl_e P k - pl_s P k := rfl
    have ex : nI 16 * (nI 1 + nI i) + nI k = nI (16 * (1 + i) + k) := by rw [nI_add, fr_mul, nI_add]
    (repeat (first | refine pm_W.ts rfl rfl ?_ | refine pm_W.tl rfl rfl ?_ | refine pm_W.get rfl rfl t1 rfl ?_))
    refine mr_ld (i := 7) (k := 0) hB rfl rfl rfl rfl (show 0 < 7 by omega) ?_
    rw [p1]
    refine pm_W.icmp rfl (fun y => ?_) (fun _ => ?_)
    · have y : nI P.length ≤ nI k := y
      rw [nI_leI (by omega) (by omega)] at y
      omega
    · (iterate 7 (first | refine pm_W.ts rfl rfl ?_ | refine pm_W.tl rfl rfl ?_))
      show pm_W xs 4 mM_make _ _ [.int (nI 16 * (nI 1 + nI i) + nI k)] g Q
      rw [ex]
      (repeat (first | refine pm_W.ts rfl rfl ?_ | refine pm_W.tl rfl rfl ?_ | refine pm_W.get rfl rfl t1 rfl ?_))
      refine mr_ld (i := 8) (k := k) hB rfl rfl rfl rfl (show k < 112 by omega) ?_
      rw [q8]
      refine mr_st (i := 8) (k := 16 * (1 + i) + k) hB rfl rfl rfl rfl (show 16 * (1 + i) + k < 112 by omega) (fun g1 hB1 a1 => ?_)
      have t2 := hB1.1
      (repeat (first | refine pm_W.ts rfl rfl ?_ | refine pm_W.tl rfl rfl ?_ | refine pm_W.get rfl rfl t2 rfl ?_))
      refine mr_ld (i := 9) (k := k) hB1 rfl rfl rfl rfl (show k < 112 by omega) ?_
      rw [fr_up_n (show 9 ≠ 8 by omega), q9]
      refine mr_st (i := 9) (k := 16 * (1 + i) + k) hB1 rfl rfl rfl rfl (show 16 * (1 + i) + k < 112 by omega) (fun g2 hB2 a2 => ?_)
      rw [fr_up_n (show 9 ≠ 8 by omega)] at hB2
      have t3 := hB2.1
      (repeat (first | refine pm_W.ts rfl rfl ?_ | refine pm_W.tl rfl rfl ?_ | refine pm_W.get rfl rfl t3 rfl ?_))
      refine mr_ld (i := 10) (k := k) hB2 rfl rfl rfl rfl (show k < 112 by omega) ?_
      rw [fr_up_n (show 10 ≠ 9 by omega), fr_up_n (show 10 ≠ 8 by omega), q10]
      refine mr_st (i := 10) (k := 16 * (1 + i) + k) hB2 rfl rfl rfl rfl (show 16 * (1 + i) + k < 112 by omega) (fun g3 hB3 a3 => ?_)
      rw [fr_up_n (show 10 ≠ 9 by omega), fr_up_n (show 10 ≠ 8 by omega)] at hB3
      have c8 : (fr_up (fr_up (fr_up B 8 ((B 8).set (16 * (1 + i) + k) (nI (pl_s P k)))) 9 ((B 9).set (16 * (1 + i) + k) (nI (ex_n P k)))) 10 ((B 10).set (16 * (1 + i) + k) (pl_i P k))) 8 = (B 8).set (16 * (1 + i) + k) (nI (pl_s P k)) := by rw [fr_up_n (by omega), fr_up_n (by omega), fr_up_s]
      have c9 : (fr_up (fr_up (fr_up B 8 ((B 8).set (16 * (1 + i) + k) (nI (pl_s P k)))) 9 ((B 9).set (16 * (1 + i) + k) (nI (ex_n P k)))) 10 ((B 10).set (16 * (1 + i) + k) (pl_i P k))) 9 = (B 9).set (16 * (1 + i) + k) (nI (ex_n P k)) := by rw [fr_up_n (by omega), fr_up_s]
      have c10 : (fr_up (fr_up (fr_up B 8 ((B 8).set (16 * (1 + i) + k) (nI (pl_s P k)))) 9 ((B 9).set (16 * (1 + i) + k) (nI (ex_n P k)))) 10 ((B 10).set (16 * (1 + i) + k) (pl_i P k))) 10 = (B 10).set (16 * (1 + i) + k) (pl_i P k) := by rw [fr_up_s]
      have co : ∀ j, j ≠ 8 → j ≠ 9 → j ≠ 10 → (fr_up (fr_up (fr_up B 8 ((B 8).set (16 * (1 + i) + k) (nI (pl_s P k)))) 9 ((B 9).set (16 * (1 + i) + k) (nI (ex_n P k)))) 10 ((B 10).set (16 * (1 + i) + k) (pl_i P k))) j = B j := fun j n8 n9 n10 => by rw [fr_up_n n10, fr_up_n n9, fr_up_n n8]
      generalize hCe : fr_up (fr_up (fr_up B 8 ((B 8).set (16 * (1 + i) + k) (nI (pl_s P k)))) 9 ((B 9).set (16 * (1 + i) + k) (nI (ex_n P k)))) 10 ((B 10).set (16 * (1 + i) + k) (pl_i P k)) = C at hB3 c8 c9 c10 co
      have ag3 := ((hag.tr a1).tr a2).tr a3
      have hkC : mk C (40 * 0) (ms_go P os st k) := mk_same hkB (co 13 (by omega) (by omega) (by omega)) (co 14 (by omega) (by omega) (by omega)) (fun j _ => by rw [co 1 (by omega) (by omega) (by omega)])
      have hSC : mb C 0 os := by unfold mb; rw [co 1 (by omega) (by omega) (by omega)]; exact hS
      have hPC : ml C 0 P := by
        refine ⟨by rw [co 7 (by omega) (by omega) (by omega)]; exact p1, p2, fun t ht => ?_⟩
        rw [c8, c9, c10, fr_gn (by omega), fr_gn (by omega), fr_gn (by omega)]
        exact p3 t ht
      have rowC : ∀ t, t < k + 1 → (C 8).getD (16 * (1 + i) + t) 0 = nI (pl_s P t) ∧ (C 9).getD (16 * (1 + i) + t) 0 = nI (ex_n P t) ∧ (C 10).getD (16 * (1 + i) + t) 0 = pl_i P t := by
        intro t ht
        rw [c8, c9, c10]
        by_cases ct : t = k
        · subst ct
          rw [fr_gs (by omega), fr_gs (by omega), fr_gs (by omega)]
          exact ⟨rfl, rfl, rfl⟩
        · rw [fr_gn (by omega), fr_gn (by omega), fr_gn (by omega)]
          exact hrow t (by omega)
      have mmC : mm_ag i B C := by
        refine ⟨fun j n1 n7 n8 n9 n10 _ _ _ => co j n8 n9 n10, fun t _ _ => by rw [co 7 (by omega) (by omega) (by omega)], fun r t r1 r2 t1 t2 => ?_, fun t _ => by rw [co 11 (by omega) (by omega) (by omega)], fun r t hr _ => ?_, fun t _ => by rw [co 1 (by omega) (by omega) (by omega)]⟩
        · have : r = 8 ∨ r = 9 ∨ r = 10 := by omega
          rcases this with e | e | e
          · rw [e, c8, fr_gn (by omega)]
          · rw [e, c9, fr_gn (by omega)]
          · rw [e, c10, fr_gn (by omega)]
        · rcases hr with e | e
          · rw [e, co 13 (by omega) (by omega) (by omega)]
          · rw [e, co 14 (by omega) (by omega) (by omega)]
      have h7C : (C 7).getD (1 + i) 0 = nI P.length := by rw [co 7 (by omega) (by omega) (by omega)]; exact h7
      have h11C : (C 11).getD i 0 = 1 := by rw [co 11 (by omega) (by omega) (by omega)]; exact h11
      have idC : (C 10).getD k 0 = pl_i P k := by have := (hPC.2.2 k (by omega)).2.2; rw [show 16 * 0 + k = k by omega] at this; exact this
      have atC : (C 8).getD k 0 = nI (pl_s P k) := by have := (hPC.2.2 k (by omega)).1; rw [show 16 * 0 + k = k by omega] at this; exact this
      have mnC : (C 9).getD k 0 = nI (ex_n P k) := by have := (hPC.2.2 k (by omega)).2.1; rw [show 16 * 0 + k = k by omega] at this; exact this
      have mono := dp_new_mono (ps := P) (st := st) (P.length - k) k
      rw [show k + (P.length - k) = P.length by omega] at mono
      have t4 := hB3.1
      (repeat (first | refine pm_W.ts rfl rfl ?_ | refine pm_W.tl rfl rfl ?_ | refine pm_W.get rfl rfl t4 rfl ?_))
      refine mr_ld (i := 10) (k := k) hB3 rfl rfl rfl rfl (show k < 112 by omega) ?_
      rw [idC]
      refine pm_W.callV (d' := 0) (as := [.int (nI 0), .int (pl_i P k)]) rfl rfl rfl rfl (fr_ble rfl) t4 (fr_ble rfl) (ct_M_find (q := 0) hB3 hkC (Or.inl ⟨rfl, fr_up_s, by omega⟩) (fun j he hj => ?_) (fun he => ?_))
      · have eg : ms_go P os st (k + 1) = ms_go P os st k := by rw [ms_go, if_neg (by rw [he]; intro q; cases q)]
        refine pm_W.ifz rfl (fun _ => ?_) (fun y => absurd (nI_pos' (by omega)) y)
        (iterate 1 (first | refine pm_W.ts rfl rfl ?_ | refine pm_W.tl rfl rfl ?_))
        refine pm_W.goto rfl ?_
        rw [fr_inc]
        exact ih (k + 1) c2 _ _ g3 C (by omega) (by rw [eg]; exact hB3) (by rw [eg]; exact hkC) hSC hPC h7C h11C rowC (hmm.tr mmC) ag3
      · have eg : ms_go P os st (k + 1) = ms_go P os st k ++ [(pl_i P k, bt_sub os (pl_s P k) (ex_n P k))] := by rw [ms_go, if_pos he]
        have lenk1 := ms_len (ps := P) (os := os) (st := st) (k + 1) (by omega)
        have mono1 := dp_new_mono (ps := P) (st := st) (P.length - (k + 1)) (k + 1)
        rw [show k + 1 + (P.length - (k + 1)) = P.length by omega] at mono1
        have lenk2 : (ms_go P os st (k + 1)).length = (ms_go P os st k).length + 1 := by rw [eg, List.length_append]; rfl
        generalize hLe : ms_go P os st k = L at *
        have c13 : (C 13).length = 46 := hB3.len (i := 13) rfl rfl
        have c14 : (C 14).length = 46 := hB3.len (i := 14) rfl rfl
        have sl := bt_sub_len (bs := os) (s := pl_s P k) (n := ex_n P k) (by omega)
        refine pm_W.ifz rfl (fun y => absurd (show (0 : Int32) ≤ -1 from y) (by decide)) (fun _ => ?_)
        (repeat (first | refine pm_W.ts rfl rfl ?_ | refine pm_W.tl rfl rfl ?_ | refine pm_W.get rfl rfl t4 rfl ?_))
        show pm_W xs 4 mM_make _ _ [.int (nI k), .ref (o + 10), .int (nI L.length), .ref o] g3 Q
        refine mr_ld (i := 10) (k := k) hB3 rfl rfl rfl rfl (show k < 112 by omega) ?_
        rw [idC]
        (repeat (first | refine pm_W.ts rfl rfl ?_ | refine pm_W.tl rfl rfl ?_ | refine pm_W.get rfl rfl t4 rfl ?_))
        refine mr_ld (i := 8) (k := k) hB3 rfl rfl rfl rfl (show k < 112 by omega) ?_
        rw [atC]
        (repeat (first | refine pm_W.ts rfl rfl ?_ | refine pm_W.tl rfl rfl ?_ | refine pm_W.get rfl rfl t4 rfl ?_))
        refine mr_ld (i := 9) (k := k) hB3 rfl rfl rfl rfl (show k < 112 by omega) ?_
        rw [mnC]
        refine pm_W.callV (d' := 0) (as := [.int (nI L.length), .int (pl_i P k), .int (nI (pl_s P k)), .int (nI (ex_n P k))]) rfl rfl rfl rfl (fr_ble rfl) t4 (fr_ble rfl) (ct_M_keep hB3 (by omega) (by omega) (by omega) (by omega) (fun g4 E hE e1 e2 e3 e4 e5 a4 => ?_))
        have t5 := hE.1
        (repeat (first | refine pm_W.ts rfl rfl ?_ | refine pm_W.tl rfl rfl ?_ | refine pm_W.get rfl rfl t5 rfl ?_))
        show pm_W xs 4 mM_make _ _ [.int (nI L.length + nI 1), .ref o] g4 Q
        rw [nI_add]
        refine mr_pt 5 hE rfl rfl rfl rfl (Or.inl rfl) (fun g5 hE5 a5 => ?_)
        rw [mr_up_up] at hE5
        (iterate 1 (first | refine pm_W.ts rfl rfl ?_ | refine pm_W.tl rfl rfl ?_))
        refine pm_W.goto rfl ?_
        rw [fr_inc]
        have hSsub : mb C (pl_s P k) (bt_sub os (pl_s P k) (ex_n P k)) := by
          intro t ht
          rw [sl] at ht
          rw [bt_sub_at ht]
          have := hSC (pl_s P k + t) (by omega)
          rw [Nat.zero_add] at this
          exact this
        refine ih (k + 1) c2 _ _ g5 E (by omega) (by rw [lenk2]; exact hE5) ?_ ?_ ?_ ?_ ?_ ?_ ?_ ((ag3.tr a4).tr a5)
        · rw [eg]
          intro j hj
          rw [List.length_append, List.length_singleton] at hj
          by_cases c : j = L.length
          · subst c
            rw [kp_ap_hi.1, kp_ap_hi.2, show 40 * 0 + L.length = L.length by omega]
            show ms E L.length (pl_i P k) (bt_sub os (pl_s P k) (ex_n P k))
            exact ms_keep (by omega) (by omega) (by omega) hSsub e1 (by rw [sl]; exact e2) (fun t ht => e5 t (by omega))
          · rw [(kp_ap_lo (by omega)).1, (kp_ap_lo (by omega)).2]
            exact ms_other (by omega) (by omega) e1 e2 e4 (hkC j (by omega))
        · intro t ht
          rw [e4 _ (by omega)]
          exact hSC t ht
        · refine ⟨by rw [e3 7 (by omega) (by omega) (by omega)]; exact hPC.1, p2, fun t ht => ?_⟩
          rw [e3 8 (by omega) (by omega) (by omega), e3 9 (by omega) (by omega) (by omega), e3 10 (by omega) (by omega) (by omega)]
          exact hPC.2.2 t ht
        · rw [e3 7 (by omega) (by omega) (by omega)]; exact h7C
        · rw [e3 11 (by omega) (by omega) (by omega)]; exact h11C
        · intro t ht
          rw [e3 8 (by omega) (by omega) (by omega), e3 9 (by omega) (by omega) (by omega), e3 10 (by omega) (by omega) (by omega)]
          exact rowC t ht
        · refine (hmm.tr mmC).tr ⟨fun j n1 _ _ _ _ _ n13 n14 => e3 j n1 n13 n14, fun t _ _ => by rw [e3 7 (by omega) (by omega) (by omega)], fun r t r1 r2 _ _ => by rw [e3 r (by omega) (by omega) (by omega)], fun t _ => by rw [e3 11 (by omega) (by omega) (by omega)], fun r t hr ht => ?_, fun t ht => e4 t (by omega)⟩
          rcases hr with q | q
          · rw [q, e1, fr_gn (by omega)]
          · rw [q, e2, fr_gn (by omega)]
theorem ct_M_make (hb : mr_R h o A I) (hm : mt A 0 T) (hV : tV T) (hI : mI I z) (hz : cz_ok z) (hi : mi A im) (hk : mk A (40 * 0) st) (h5 : I 5 = nI st.length) (l5 : st.length ≤ 40)
    (k0 : (∀ i, i < 4 → im i ≠ []) → Q (some (.int (-1))) h)
    (k2 : ∀ i, i < 4 → im i = [] → (∀ j, j < i → im j ≠ []) → 40 < st.length + dp_new (dp_cut z (em_out T)) st (dp_cut z (em_out T)).length → ∀ (g : pm_H) (B : Nat → List Int32) (y : Int32), mr_R g o B (fr_up I 0 y) → mi B im → mk B (40 * 0) st → mm_ag i A B → fr_ag o (o + 15) h g → Q (some (.int (-2))) g)
    (k1 : ∀ i, i < 4 → im i = [] → (∀ j, j < i → im j ≠ []) → st.length + dp_new (dp_cut z (em_out T)) st (dp_cut z (em_out T)).length ≤ 40 → ∀ (g : pm_H) (B : Nat → List Int32) (y : Int32), mr_R g o B (fr_up (fr_up I 0 y) 5 (nI (ms_go (dp_cut z (em_out T)) (em_out T) st (dp_cut z (em_out T)).length).length)) → mi B (fr_up im i (dp_cut z (em_out T))) → mk B (40 * 0) (ms_go (dp_cut z (em_out T)) (em_out T) st (dp_cut z (em_out T)).length) → mm_ag i A B → fr_ag o (o + 15) h g → Q (some (.int (nI i))) g) :
    pm_X xs 4 mM_make [.ref o] h Q := by
  have h1 := hb.1
  have start : ∀ i, i < 4 → im i = [] → (∀ j, j < i → im j ≠ []) → pm_W xs 4 mM_make 29 [.ref o, .int (nI i), pm_none, pm_none, pm_none, pm_none] [] h Q := by
    intro i hi4 hie hij
    (repeat (first | refine pm_W.ts rfl rfl ?_ | refine pm_W.tl rfl rfl ?_))
    refine pm_W.callV (d' := 3) (as := [.int (nI 0)]) rfl rfl rfl rfl (fr_ble rfl) h1 (fr_ble rfl) (ct_M_emit hb hm hV (by omega) (fun g1 B1 hB1 hS1 hr1 hq1 hl a1 => ?_))
    have t1 := hB1.1
    (repeat (first | refine pm_W.ts rfl rfl ?_ | refine pm_W.tl rfl rfl ?_ | refine pm_W.get rfl rfl t1 rfl ?_))
    show pm_W xs 4 mM_make _ _ [.int (nI 0), .int (nI (em_out T).length), .int (nI 0), .ref o] g1 Q
    refine pm_W.callV (d' := 2) (as := [.int (nI 0), .int (nI (em_out T).length), .int (nI 0)]) rfl rfl rfl rfl (fr_ble rfl) t1 (fr_ble rfl) (ct_M_cut hB1 (mI_0 hI) hz hS1 hl (by omega) (by omega) (fun g2 B2 hB2 c1 c2 c3 a2 => ?_))
    have hPV := (cz_cut_V hz (bs := em_out T) (em_out T).length (Nat.le_refl _)).1
    change ml B2 0 (dp_cut z (em_out T)) at c1
    change pl_V (dp_cut z (em_out T)) _ at hPV
    have hne := dp_cut_ne (z := z) (os := em_out T) (by have := em_out_len (T := T); omega)
    generalize dp_cut z (em_out T) = P at *
    have hk2 : mk B2 (40 * 0) st := mk_same hk (by rw [mc_row c2 (by omega), hr1 13 (by omega)]) (by rw [mc_row c2 (by omega), hr1 14 (by omega)]) (fun j hj => by rw [mc_row c2 (by omega), hq1 j (by omega)])
    have hS2 : mb B2 0 (em_out T) := by unfold mb; rw [mc_row c2 (by omega)]; exact hS1
    have mm2 : mm_ag i A B2 := by
      refine ⟨fun j n1 n7 n8 n9 n10 n11 n13 n14 => by rw [mc_row c2 (by omega), hr1 j n1], fun t n0 _ => by rw [c3 t n0, hr1 7 (by omega)], fun r t r1 r2 ht _ => ?_, fun t _ => by rw [mc_row c2 (by omega), hr1 11 (by omega)], fun r t hr _ => ?_, fun t ht => by rw [mc_row c2 (by omega), hq1 t (by omega)]⟩
      · have := c2.2 r t r1 r2 (by omega)
        rw [fr_up_n (by omega)] at this
        rw [this, hr1 r (by omega)]
      · rcases hr with e | e
        · rw [e, mc_row c2 (by omega), hr1 13 (by omega)]
        · rw [e, mc_row c2 (by omega), hr1 14 (by omega)]
    have hi2 : mi B2 im := by
      intro t ht
      obtain ⟨g1, g2, c, g3, g4⟩ := hi t ht
      refine ⟨by rw [mc_row c2 (by omega), hr1 11 (by omega)]; exact g1, fun q => ?_, c, g3, by rw [c3 (1 + t) (by omega), hr1 7 (by omega)]; exact g4⟩
      refine mc_ml c2 c3 (by omega) ?_
      have := g2 q
      unfold ml mlp at this ⊢
      rw [hr1 7 (by omega), hr1 8 (by omega), hr1 9 (by omega), hr1 10 (by omega)]
      exact this
    have i5 : fr_up I 0 (nI (em_out T).length) 5 = nI st.length := by rw [fr_up_n (by omega)]; exact h5
    have ag2 := a1.tr a2
    (iterate 4 (first | refine pm_W.ts rfl rfl ?_ | refine pm_W.tl rfl rfl ?_))
    refine ct_M_makeA (P := P) hB2 c1 hk2 i5 l5 (fun v3 v4 v5 => ?_) P.length 0 _ _ (by omega)
    have hnl := dp_new_le (ps := P) (st := st) P.length
    have hP15 := c1.2.1
    have t2 := hB2.1
    (iterate 2 (first | refine pm_W.ts rfl rfl ?_ | refine pm_W.tl rfl rfl ?_ | refine pm_W.get rfl rfl t2 rfl ?_))
    rw [i5]
    (repeat (first | refine pm_W.ts rfl rfl ?_ | refine pm_W.tl rfl rfl ?_))
    rw [nI_add]
    refine pm_W.icmp rfl (fun y => ?_) (fun y => ?_)
    · have y : nI (st.length + dp_new P st P.length) ≤ nI 40 := y
      rw [nI_leI (by omega) (by omega)] at y
      have l7 : (B2 7).length = 7 := hB2.len (i := 7) rfl rfl
      have l11 : (B2 11).length = 4 := hB2.len (i := 11) rfl rfl
      (repeat (first | refine pm_W.ts rfl rfl ?_ | refine pm_W.tl rfl rfl ?_ | refine pm_W.get rfl rfl t2 rfl ?_))
      refine mr_stz hB2 rfl (by omega) rfl (fun g3 hB3 a3 => ?_)
      have t3 := hB3.1
      (repeat (first | refine pm_W.ts rfl rfl ?_ | refine pm_W.tl rfl rfl ?_ | refine pm_W.get rfl rfl t3 rfl ?_))
      show pm_W xs 4 mM_make _ _ [.int (nI 0), .ref (o + 7), .int (nI 1 + nI i), .ref (o + 7)] g3 Q
      rw [nI_add]
      refine mr_ld (i := 7) (k := 0) hB3 rfl rfl rfl rfl (show 0 < 7 by omega) ?_
      rw [fr_up_n (show 7 ≠ 11 by omega), c1.1]
      refine mr_st (i := 7) (k := 1 + i) hB3 rfl rfl rfl rfl (show 1 + i < 7 by omega) (fun g4 hB4 a4 => ?_)
      rw [fr_up_n (show 7 ≠ 11 by omega)] at hB4
      have c7 : (fr_up (fr_up B2 11 ((B2 11).set i (Int32.ofInt 1))) 7 ((B2 7).set (1 + i) (nI P.length))) 7 = (B2 7).set (1 + i) (nI P.length) := fr_up_s
      have c11 : (fr_up (fr_up B2 11 ((B2 11).set i (Int32.ofInt 1))) 7 ((B2 7).set (1 + i) (nI P.length))) 11 = (B2 11).set i (Int32.ofInt 1) := by rw [fr_up_n (by omega), fr_up_s]
      have co : ∀ j, j ≠ 7 → j ≠ 11 → (fr_up (fr_up B2 11 ((B2 11).set i (Int32.ofInt 1))) 7 ((B2 7).set (1 + i) (nI P.length))) j = B2 j := fun j n7 n11 => by rw [fr_up_n n7, fr_up_n n11]
      generalize fr_up (fr_up B2 11 ((B2 11).set i (Int32.ofInt 1))) 7 ((B2 7).set (1 + i) (nI P.length)) = C at hB4 c7 c11 co
      have mmC : mm_ag i B2 C := ⟨fun j _ n7 _ _ _ n11 _ _ => co j n7 n11, fun t _ ht => by rw [c7, fr_gn (fun q => ht q.symm)], fun r t r1 r2 _ _ => by rw [co r (by omega) (by omega)], fun t ht => by rw [c11, fr_gn (fun q => ht q.symm)], fun r t hr _ => by rcases hr with e | e <;> rw [e, co _ (by omega) (by omega)], fun t _ => by rw [co 1 (by omega) (by omega)]⟩
      (iterate 2 (first | refine pm_W.ts rfl rfl ?_ | refine pm_W.tl rfl rfl ?_))
      refine ct_M_makeB (I := fr_up I 0 (nI (em_out T).length)) (A0 := A) (h0 := h) (P := P) (os := em_out T) (st := st) hi4 hPV hl y hP15 (fun g5 E hE e1 e2 e3 e4 e5 a5 => ?_) P.length 0 _ _ _ g4 C (by omega) ?_ ?_ ?_ ?_ ?_ ?_ ?_ (mm2.tr mmC) ((ag2.tr a3).tr a4)
      · refine k1 i hi4 hie hij y g5 E _ hE (fun t ht => ?_) e1 e5 a5
        by_cases ct : t = i
        · subst ct
          rw [fr_up_s]
          refine ⟨by rw [e3, fr_bt (decide_eq_true hne)], fun _ => ⟨e2, hP15, e4⟩, P.length, hP15, e2⟩
        · rw [fr_up_n ct]
          obtain ⟨g1, g2, c, g3, g4⟩ := hi t ht
          refine ⟨by rw [e5.2.2.2.1 t ct]; exact g1, fun q => e5.ml (by omega) (by omega) (g2 q), c, g3, by rw [e5.2.1 (1 + t) (by omega) (by omega)]; exact g4⟩
      · have : fr_up (fr_up I 0 (nI (em_out T).length)) 5 (nI (ms_go P (em_out T) st 0).length) = fr_up I 0 (nI (em_out T).length) := by
          show fr_up (fr_up I 0 (nI (em_out T).length)) 5 (nI st.length) = _
          rw [← i5, mr_up_id]
        rw [this]
        exact hB4
      · exact mk_same hk2 (co 13 (by omega) (by omega)) (co 14 (by omega) (by omega)) (fun j _ => by rw [co 1 (by omega) (by omega)])
      · unfold mb; rw [co 1 (by omega) (by omega)]; exact hS2
      · refine ⟨by rw [c7, fr_gn (by omega)]; exact c1.1, hP15, fun t ht => ?_⟩
        rw [co 8 (by omega) (by omega), co 9 (by omega) (by omega), co 10 (by omega) (by omega)]
        exact c1.2.2 t ht
      · rw [c7, fr_gs (by omega)]
      · rw [c11, fr_gs (by omega)]; rfl
      · intro t ht; exact absurd ht (Nat.not_lt_zero _)
    · have y : ¬ nI (st.length + dp_new P st P.length) ≤ nI 40 := y
      rw [nI_leI (by omega) (by omega)] at y
      (iterate 1 (first | refine pm_W.ts rfl rfl ?_ | refine pm_W.tl rfl rfl ?_))
      exact pm_W.iret rfl rfl (k2 i hi4 hie hij (by omega) g2 B2 _ hB2 hi2 hk2 mm2 ag2)
  have loop : ∀ (r i : Nat), i + r = 4 → (∀ j, j < i → im j ≠ []) → pm_W xs 4 mM_make 2 [.ref o, .int (nI i), pm_none, pm_none, pm_none, pm_none] [] h Q := by
    intro r
    induction r with
    | zero =>
      intro i hi4 hij
      have e4 : i = 4 := by omega
      subst e4
      (repeat (first | refine pm_W.ts rfl rfl ?_ | refine pm_W.tl rfl rfl ?_))
      refine pm_W.icmp rfl (fun _ => ?_) (fun y => ?_)
      · (repeat (first | refine pm_W.ts rfl rfl ?_ | refine pm_W.tl rfl rfl ?_))
        refine pm_W.icmp rfl (fun y => absurd rfl y) (fun _ => ?_)
        (iterate 1 (first | refine pm_W.ts rfl rfl ?_ | refine pm_W.tl rfl rfl ?_))
        exact pm_W.iret rfl rfl (k0 (fun i hi => hij i hi))
      · have y : ¬ nI 4 ≤ nI 4 := y
        rw [nI_leI (by omega) (by omega)] at y
        omega
    | succ r ih =>
      intro i hi4 hij
      obtain ⟨g1, -, -⟩ := hi i (by omega)
      (repeat (first | refine pm_W.ts rfl rfl ?_ | refine pm_W.tl rfl rfl ?_))
      refine pm_W.icmp rfl (fun y => ?_) (fun _ => ?_)
      · have y : nI 4 ≤ nI i := y
        rw [nI_leI (by omega) (by omega)] at y
        omega
      · (repeat (first | refine pm_W.ts rfl rfl ?_ | refine pm_W.tl rfl rfl ?_ | refine pm_W.get rfl rfl h1 rfl ?_))
        refine mr_ldz hb rfl (by omega) ?_
        rw [g1]
        refine pm_W.ifz rfl (fun d => ?_) (fun d => ?_)
        · have d := Decidable.not_not.mp (of_decide_eq_false (fr_b0 d))
          (repeat (first | refine pm_W.ts rfl rfl ?_ | refine pm_W.tl rfl rfl ?_))
          refine pm_W.icmp rfl (fun _ => start i (by omega) d hij) (fun y => ?_)
          have y : ¬ ¬ nI i = nI 4 := y
          rw [nI_eq (by omega) (by omega)] at y
          omega
        · have d := of_decide_eq_true (fr_b1 d)
          (iterate 1 (first | refine pm_W.ts rfl rfl ?_ | refine pm_W.tl rfl rfl ?_))
          refine pm_W.goto rfl ?_
          rw [fr_inc]
          refine ih (i + 1) (by omega) (fun j hj => ?_)
          by_cases cj : j = i
          · rw [cj]; exact d
          · exact hij j (by omega)
  unfold pm_X
  (iterate 2 (first | refine pm_W.ts rfl rfl ?_ | refine pm_W.tl rfl rfl ?_))
  exact loop 4 0 (by omega) (fun j hj => absurd hj (Nat.not_lt_zero _))
end MMAKE2
