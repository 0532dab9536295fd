theorem dp_R.ukeep {h h' : pm_H} {b : Nat} {z : cz_N} {im : Nat → dp_P} {st ca : dp_K} {sd : Nat → List Int32 × dp_P} {ws ta : List Nat} {f : Bool} {S : tr_S} (hb : dp_R h b z im st ca sd ws ta f S) (e : ∀ k, b ≤ k → k < b + 185 → h'.1[k]? = h.1[k]?) : dp_R h' b z im st ca sd ws ta f S := by
  have ht := dp_t_c b f
  obtain ⟨c1, c2, c3, c4, c5, c6, c7, c8, c9, c10, c11, c12, c13, c14⟩ := hb
  refine ⟨(e _ (by omega) (by omega)).trans c1, (e _ (by omega) (by omega)).trans c2, (e _ (by omega) (by omega)).trans c3, fun i hi => (c4 i hi).keep fun k _ _ => e k (by omega) (by omega), c5.keep fun k _ _ => e k (by omega) (by omega), c6.keep fun k _ _ => e k (by omega) (by omega), (e _ (by omega) (by omega)).trans c7, fun s hs => ⟨(e _ (by omega) (by omega)).trans (c8 s hs).1, (c8 s hs).2.1.keep fun k _ _ => e k (by omega) (by omega), (c8 s hs).2.2.keep fun k _ _ => e k (by omega) (by omega)⟩, c9.imp fun _ q => q.keep fun k _ _ => e k (by omega) (by omega), c10.keep fun k _ _ => e k (by omega) (by omega), (e _ (by omega) (by omega)).trans c11, c12, c13.keep fun k _ _ => e k (by omega) (by omega), c14.imp fun _ q => ⟨q.1.keep fun k _ _ => e k (by omega) (by omega), q.2⟩⟩
theorem dp_len {h : pm_H} {b : Nat} {z : cz_N} {im : Nat → dp_P} {st ca : dp_K} {sd : Nat → List Int32 × dp_P} {ws ta : List Nat} {f : Bool} {S : tr_S} (hb : dp_R h b z im st ca sd ws ta f S) : b + 185 ≤ h.1.length := by
  have ht := dp_t_c b f
  obtain ⟨c1, c2, c3, c4, c5, c6, c7, c8, c9, c10, c11, c12, c13, S', c14, -⟩ := hb
  obtain ⟨ys, -, g1, -⟩ := c13.2.2.2.2.2.1 10 (by omega)
  obtain ⟨zs, -, g2, -⟩ := c14.2.2.2.2.2.1 10 (by omega)
  have h1 := (List.getElem?_eq_some_iff.mp g1).1
  have h2 := (List.getElem?_eq_some_iff.mp g2).1
  omega
theorem fr_up_id {α : Type} {g : Nat → α} {i : Nat} {v : α} (h : g i = v) : fr_up g i v = g := by
  funext j
  by_cases e : j = i
  · subst e; rw [fr_up_s, h]
  · rw [fr_up_n e]
theorem fr_up_up {α : Type} {g : Nat → α} {i : Nat} {v w : α} : fr_up (fr_up g i v) i w = fr_up g i w := by
  funext j
  by_cases e : j = i
  · subst e; rw [fr_up_s, fr_up_s]
  · rw [fr_up_n e, fr_up_n e, fr_up_n e]
def dp_cut (z : cz_N) (os : List Int32) : dp_P := (cz_cut z os os.length).1
section DEPOT3
variable {xs : List Int32} {h : pm_H} {b : Nat} {z : cz_N} {im : Nat → dp_P} {st ca : dp_K} {sd : Nat → List Int32 × dp_P} {ws ta : List Nat} {f : Bool} {S : tr_S} {Q : Option Value → pm_H → Prop}
theorem ct_D_make (hb : dp_R h b z im st ca sd ws ta f S) (hz : cz_ok z) (hB : ∀ s, s < 11 → tr_K S s = 1 → bt_ok (tr_B S s)) (hl : (ws_out S).length ≤ 117) (hok : bt_ok (ws_out S))
    (k0 : (∀ i, i < 4 → im i ≠ []) → Q (some (.int (-1))) h)
    (k2 : ∀ i, i < 4 → im i = [] → (∀ j, j < i → im j ≠ []) → 40 < st.length + dp_new (dp_cut z (ws_out S)) st (dp_cut z (ws_out S)).length → ∀ h' : pm_H, dp_R h' b z im st ca sd ws ta f S → fr_ag b (b + 185) h h' → Q (some (.int (-2))) h')
    (k1 : ∀ i, i < 4 → im i = [] → (∀ j, j < i → im j ≠ []) → st.length + dp_new (dp_cut z (ws_out S)) st (dp_cut z (ws_out S)).length ≤ 40 → ∀ h' : pm_H, dp_R h' b z (fr_up im i (dp_cut z (ws_out S))) (ms_go (dp_cut z (ws_out S)) (ws_out S) st (dp_cut z (ws_out S)).length) ca sd ws ta f S → fr_ag b (b + 185) h h' → Q (some (.int (nI i))) h') :
    pm_X xs 5 mD_make [.ref b] h Q := by
  have ht := dp_t_c b f
  obtain ⟨c1, c2, c3, c4, c5, c6, c7, c8, ⟨os0, c9⟩, c10, c11, c12, c13, c14⟩ := id hb
  unfold pm_X
  (repeat (first | refine pm_W.ts rfl rfl ?_ | refine pm_W.tl rfl rfl ?_))
  refine pm_W.callV (d' := 2) rfl rfl rfl rfl (fr_ble rfl) c1 (fr_ble rfl) (ct_D_freeImage hb (fun i hi he hj => ?_) (fun hall => ?_))
  · (repeat (first | refine pm_W.ts rfl rfl ?_ | refine pm_W.tl rfl rfl ?_))
    refine pm_W.icmp rfl (fun c => ?_) (fun c => absurd (Classical.not_not.mp c) (fr_not1 (n := i) (by omega)))
    (repeat (first | refine pm_W.ts rfl rfl ?_ | refine pm_W.tl rfl rfl ?_ | refine pm_W.get rfl rfl c1 rfl ?_))
    refine pm_W.aald rfl c3 (pm_ix_ok (j := i) hi (show 4 < 2 ^ 31 by omega)) (by decide) ?_
    rw [dp_im4 hi]
    (repeat (first | refine pm_W.ts rfl rfl ?_ | refine pm_W.tl rfl rfl ?_ | refine pm_W.get rfl rfl c1 rfl ?_))
    refine pm_W.callV rfl rfl rfl rfl (fr_ble rfl) c13.1 (fr_ble rfl) (ct_T_writeStream c13 hB c9 (by omega) hl (fun g hg hag => ?_))
    have hb1 := hb.uos hg hag
    obtain ⟨d1, d2, d3, d4, -⟩ := id hb1
    (repeat (first | refine pm_W.ts rfl rfl ?_ | refine pm_W.tl rfl rfl ?_ | refine pm_W.get rfl rfl d1 rfl ?_))
    refine pm_W.callV rfl rfl rfl rfl (fr_ble rfl) d2 (fr_ble rfl) (ct_C_cut d2 hz hg hl (d4 i hi) (by omega) (by omega) (fun g2 hg2 hag2 => ?_))
    have hb2 := hb1.uim hi hg2 hag2
    have hgo := hg.ag hag2 (by omega)
    obtain ⟨e1, e2, e3, e4, e5, -⟩ := id hb2
    obtain ⟨ids, rows, s1, s2, s3, s4, s5, s6, s7, -⟩ := id e5
    (repeat (first | refine pm_W.ts rfl rfl ?_ | refine pm_W.tl rfl rfl ?_ | refine pm_W.get rfl rfl e1 rfl ?_))
    refine pm_W.callV (d' := 0) rfl rfl rfl rfl (fr_ble rfl) s1 (fr_ble rfl) (ct_K_count e5 ?_)
    (repeat (first | refine pm_W.ts rfl rfl ?_ | refine pm_W.tl rfl rfl ?_))
    have hps : fr_up im i (cz_cut z (ws_out S) (ws_out S).length).1 i = dp_cut z (ws_out S) := fr_up_s
    refine pm_W.callV (d' := 2) rfl rfl rfl rfl (fr_ble rfl) e1 (fr_ble rfl) (ct_D_idsNewToStore hb2 hi ?_)
    rw [hps]
    have hnl := dp_new_le (ps := dp_cut z (ws_out S)) (st := st) (dp_cut z (ws_out S)).length
    have hp2 := e4 i hi
    rw [hps] at hp2
    obtain ⟨es, is, p1, p2, p3, p4, p5, p6, p7, p8⟩ := id hp2
    have hagg : fr_ag b (b + 185) h g2 := (hag.wide (by omega) (by omega)).tr (hag2.wide (by omega) (by omega))
    (iterate 1 (first | refine pm_W.ts rfl rfl ?_ | refine pm_W.tl rfl rfl ?_))
    rw [nI_add]
    (iterate 1 (first | refine pm_W.ts rfl rfl ?_ | refine pm_W.tl rfl rfl ?_))
    refine pm_W.icmp rfl (fun c2 => ?_) (fun c2 => ?_)
    · have c2 : nI (st.length + dp_new (dp_cut z (ws_out S)) st (dp_cut z (ws_out S)).length) ≤ nI 40 := c2
      rw [nI_leI (by omega) (by omega)] at c2
      (repeat (first | refine pm_W.ts rfl rfl ?_ | refine pm_W.tl rfl rfl ?_))
      have hV := (cz_cut_V (z := z) (bs := ws_out S) hz _ (Nat.le_refl _)).1
      refine pm_W.callV rfl rfl rfl rfl (fr_ble rfl) e1 (fr_ble rfl) (ct_D_storePieces hb2 hi hgo hok (by rw [hps]; exact hV) hl (by rw [hps]; exact c2) (fun g3 hg3 hag3 => ?_))
      rw [hps] at hg3
      (repeat (first | refine pm_W.ts rfl rfl ?_ | refine pm_W.tl rfl rfl ?_))
      exact pm_W.iret rfl rfl (k1 i hi he hj c2 g3 hg3 (hagg.tr hag3))
    · have c2 : ¬ nI (st.length + dp_new (dp_cut z (ws_out S)) st (dp_cut z (ws_out S)).length) ≤ nI 40 := c2
      rw [nI_leI (by omega) (by omega)] at c2
      (repeat (first | refine pm_W.ts rfl rfl ?_ | refine pm_W.tl rfl rfl ?_))
      refine pm_W.callV (d' := 0) rfl rfl rfl rfl (fr_ble rfl) p1 (fr_ble rfl) (ct_P_clear hp2 (fun g3 hg3 hag3 => ?_))
      have hb3 := hb2.uim hi hg3 hag3
      rw [fr_up_up, fr_up_id he] at hb3
      (repeat (first | refine pm_W.ts rfl rfl ?_ | refine pm_W.tl rfl rfl ?_))
      exact pm_W.iret rfl rfl (k2 i hi he hj (by omega) g3 hb3 (hagg.tr (hag3.wide (by omega) (by omega))))
  · (repeat (first | refine pm_W.ts rfl rfl ?_ | refine pm_W.tl rfl rfl ?_))
    refine pm_W.icmp rfl (fun c => absurd rfl c) (fun c => ?_)
    (repeat (first | refine pm_W.ts rfl rfl ?_ | refine pm_W.tl rfl rfl ?_))
    exact pm_W.iret rfl rfl (k0 hall)
theorem ct_D_seed {x : Int32} (hb : dp_R h b z im st ca sd ws ta f S) (hz : cz_ok z) (hB : ∀ s, s < 11 → tr_K S s = 1 → bt_ok (tr_B S s)) (hl : (ws_out S).length ≤ 117)
    (k1 : ∀ i : Nat, i < 2 → x = nI i → ∀ h' : pm_H, dp_R h' b z im st ca (fr_up sd i (ws_out S, dp_cut z (ws_out S))) ws ta f S → fr_ag b (b + 185) h h' → Q (some (.int 1)) h')
    (k0 : (∀ i : Nat, i < 2 → x ≠ nI i) → Q (some (.int 0)) h) : pm_X xs 6 mD_seed [.ref b, .int x] h Q := by
  have ht := dp_t_c b f
  obtain ⟨c1, c2, c3, c4, c5, c6, c7, c8, c9, c10, c11, c12, c13, c14⟩ := id hb
  unfold pm_X
  (repeat (first | refine pm_W.ts rfl rfl ?_ | refine pm_W.tl rfl rfl ?_))
  refine pm_W.callS (d' := 0) rfl rfl rfl rfl (fr_ble rfl) (fr_ble rfl) (ct_D_isSeed (fun i hi ei => ?_) (fun hn => ?_))
  · refine pm_W.ifz rfl (fun c => ?_) (fun c => absurd (show ¬ (1 : Int32) = 0 by decide) c)
    subst ei
    (repeat (first | refine pm_W.ts rfl rfl ?_ | refine pm_W.tl rfl rfl ?_ | refine pm_W.get rfl rfl c1 rfl ?_))
    refine pm_W.aald rfl c7 (pm_ix_ok (j := i) hi (show 2 < 2 ^ 31 by omega)) (by decide) ?_
    rw [dp_sd2 hi]
    have hs := c8 i hi
    refine pm_W.callV (d' := 0) rfl rfl rfl rfl (fr_ble rfl) hs.1 (fr_ble rfl) (ct_S_bytes hs ?_)
    refine pm_W.callV (d' := 4) rfl rfl rfl rfl (fr_ble rfl) c13.1 (fr_ble rfl) (ct_T_writeStream c13 hB hs.2.1 (by omega) hl (fun g hg hag => ?_))
    have hs2 : sd_R g (b + 114 + 6 * i) (ws_out S) (sd i).2 := ⟨hag.at (by omega) hs.1, hg, hs.2.2.ag hag (by omega)⟩
    have hb1 := hb.usd hi hs2 (hag.wide (by omega) (by omega))
    obtain ⟨d1, d2, d3, d4, d5, d6, d7, d8, -⟩ := id hb1
    (repeat (first | refine pm_W.ts rfl rfl ?_ | refine pm_W.tl rfl rfl ?_ | refine pm_W.get rfl rfl d1 rfl ?_))
    refine pm_W.aald rfl d7 (pm_ix_ok (j := i) hi (show 2 < 2 ^ 31 by omega)) (by decide) ?_
    rw [dp_sd2 hi]
    (repeat (first | refine pm_W.ts rfl rfl ?_ | refine pm_W.tl rfl rfl ?_ | refine pm_W.get rfl rfl d1 rfl ?_))
    refine pm_W.callV rfl rfl rfl rfl (fr_ble rfl) hs2.1 (fr_ble rfl) (ct_S_cutWith hs2 d2 hz hl (by omega) (fun g2 hg2 hag2 => ?_))
    have hb2 := hb1.usd hi hg2 hag2
    rw [fr_up_up] at hb2
    (repeat (first | refine pm_W.ts rfl rfl ?_ | refine pm_W.tl rfl rfl ?_))
    exact pm_W.iret rfl rfl (k1 i hi rfl g2 hb2 ((hag.wide (by omega) (by omega)).tr (hag2.wide (by omega) (by omega))))
  · refine pm_W.ifz rfl (fun c2 => absurd rfl c2) (fun c2 => ?_)
    (repeat (first | refine pm_W.ts rfl rfl ?_ | refine pm_W.tl rfl rfl ?_))
    exact pm_W.iret rfl rfl (k0 hn)
def dp_size (z : cz_N) (im : Nat → dp_P) (st ca : dp_K) (S : tr_S) (j : Nat) : Nat := match j with
  | 0 => tr_cnt (tr_u S) 10
  | 1 => tr_fb S
  | 2 => (ws_out S).length
  | 3 => dp_cnt im 4
  | 4 => st.length
  | 5 => kp_sum st st.length
  | 6 => ca.length
  | _ => kp_sum ca ca.length
theorem ct_D_size {x : Int32} (hb : dp_R h b z im st ca sd ws ta f S) (hB : ∀ s, s < 11 → tr_K S s = 1 → bt_ok (tr_B S s)) (hl : (ws_out S).length ≤ 117)
    (k1 : ∀ j : Nat, j < 8 → x = nI j → ∀ h' : pm_H, dp_R h' b z im st ca sd ws ta f S → fr_ag b (b + 185) h h' → Q (some (.int (nI (dp_size z im st ca S j)))) h')
    (k0 : (∀ j : Nat, j < 8 → x ≠ nI j) → Q (some (.int (-1))) h) : pm_X xs 5 mD_size [.ref b, .int x] h Q := by
  have ht := dp_t_c b f
  obtain ⟨c1, c2, c3, c4, c5, c6, c7, c8, ⟨os0, c9⟩, c10, c11, c12, c13, c14⟩ := id hb
  obtain ⟨ids, rows, s1, -⟩ := id c5
  obtain ⟨ids2, rows2, s2, -⟩ := id c6
  by_cases hx : ∃ j : Nat, j < 8 ∧ x = nI j
  · obtain ⟨j, hj, rfl⟩ := hx
    have k1 := k1 j hj rfl
    unfold pm_X
    (iterate 1 (first | refine pm_W.ts rfl rfl ?_ | refine pm_W.tl rfl rfl ?_))
    match j, hj with
    | 0, _ =>
      refine pm_W.sw (off := 47) rfl rfl rfl ?_
      (repeat (first | refine pm_W.ts rfl rfl ?_ | refine pm_W.tl rfl rfl ?_ | refine pm_W.get rfl rfl c1 rfl ?_))
      refine pm_W.callV (d' := 0) rfl rfl rfl rfl (fr_ble rfl) c13.1 (fr_ble rfl) (ct_T_entries c13 ?_)
      exact pm_W.iret rfl rfl (k1 h hb fr_ag.rf)
    | 1, _ =>
      refine pm_W.sw (off := 55) rfl rfl rfl ?_
      (repeat (first | refine pm_W.ts rfl rfl ?_ | refine pm_W.tl rfl rfl ?_ | refine pm_W.get rfl rfl c1 rfl ?_))
      refine pm_W.callV (d' := 1) rfl rfl rfl rfl (fr_ble rfl) c13.1 (fr_ble rfl) (ct_T_fileBytes c13 ?_)
      exact pm_W.iret rfl rfl (k1 h hb fr_ag.rf)
    | 2, _ =>
      refine pm_W.sw (off := 63) rfl rfl rfl ?_
      (repeat (first | refine pm_W.ts rfl rfl ?_ | refine pm_W.tl rfl rfl ?_ | refine pm_W.get rfl rfl c1 rfl ?_))
      refine pm_W.callV rfl rfl rfl rfl (fr_ble rfl) c13.1 (fr_ble rfl) (ct_T_writeStream c13 hB c9 (by omega) hl (fun g hg hag => ?_))
      have hb1 := hb.uos hg hag
      obtain ⟨d1, -⟩ := id hb1
      obtain ⟨ys, w1, -⟩ := id hg
      (repeat (first | refine pm_W.ts rfl rfl ?_ | refine pm_W.tl rfl rfl ?_ | refine pm_W.get rfl rfl d1 rfl ?_))
      refine pm_W.callV (d' := 0) rfl rfl rfl rfl (fr_ble rfl) w1 (fr_ble rfl) (ct_B_count hg ?_)
      exact pm_W.iret rfl rfl (k1 g hb1 (hag.wide (by omega) (by omega)))
    | 3, _ =>
      refine pm_W.sw (off := 82) rfl rfl rfl ?_
      (repeat (first | refine pm_W.ts rfl rfl ?_ | refine pm_W.tl rfl rfl ?_))
      refine pm_W.callV (d' := 2) rfl rfl rfl rfl (fr_ble rfl) c1 (fr_ble rfl) (ct_D_imagesThere hb ?_)
      exact pm_W.iret rfl rfl (k1 h hb fr_ag.rf)
    | 4, _ =>
      refine pm_W.sw (off := 87) rfl rfl rfl ?_
      (repeat (first | refine pm_W.ts rfl rfl ?_ | refine pm_W.tl rfl rfl ?_ | refine pm_W.get rfl rfl c1 rfl ?_))
      refine pm_W.callV (d' := 0) rfl rfl rfl rfl (fr_ble rfl) s1 (fr_ble rfl) (ct_K_count c5 ?_)
      exact pm_W.iret rfl rfl (k1 h hb fr_ag.rf)
    | 5, _ =>
      refine pm_W.sw (off := 95) rfl rfl rfl ?_
      (repeat (first | refine pm_W.ts rfl rfl ?_ | refine pm_W.tl rfl rfl ?_ | refine pm_W.get rfl rfl c1 rfl ?_))
      refine pm_W.callV (d' := 1) rfl rfl rfl rfl (fr_ble rfl) s1 (fr_ble rfl) (ct_K_bytesInAll c5 ?_)
      exact pm_W.iret rfl rfl (k1 h hb fr_ag.rf)
    | 6, _ =>
      refine pm_W.sw (off := 103) rfl rfl rfl ?_
      (repeat (first | refine pm_W.ts rfl rfl ?_ | refine pm_W.tl rfl rfl ?_ | refine pm_W.get rfl rfl c1 rfl ?_))
      refine pm_W.callV (d' := 0) rfl rfl rfl rfl (fr_ble rfl) s2 (fr_ble rfl) (ct_K_count c6 ?_)
      exact pm_W.iret rfl rfl (k1 h hb fr_ag.rf)
    | 7, _ =>
      refine pm_W.sw (off := 111) rfl rfl rfl ?_
      (repeat (first | refine pm_W.ts rfl rfl ?_ | refine pm_W.tl rfl rfl ?_ | refine pm_W.get rfl rfl c1 rfl ?_))
      refine pm_W.callV (d' := 1) rfl rfl rfl rfl (fr_ble rfl) s2 (fr_ble rfl) (ct_K_bytesInAll c6 ?_)
      exact pm_W.iret rfl rfl (k1 h hb fr_ag.rf)
  · have hout : x.toInt < 0 ∨ 7 < x.toInt := by
      apply Classical.byContradiction
      intro q
      have q1 : 0 ≤ x.toInt := by omega
      obtain ⟨i, hi, rfl⟩ := fr_nat (x := x) (by rw [fr_le]; exact q1)
      rw [nI_toInt hi] at q
      exact hx ⟨i, by omega, rfl⟩
    unfold pm_X
    (iterate 1 (first | refine pm_W.ts rfl rfl ?_ | refine pm_W.tl rfl rfl ?_))
    refine pm_W.sw (off := 119) (st' := []) rfl (by
      show (if x.toInt < 0 ∨ 7 < x.toInt then some ((119 : Int), ([] : List Value)) else _) = _
      rw [if_pos hout]) rfl ?_
    (repeat (first | refine pm_W.ts rfl rfl ?_ | refine pm_W.tl rfl rfl ?_))
    exact pm_W.iret rfl rfl (k0 (fun j hj e => hx ⟨j, hj, e⟩))
end DEPOT3
