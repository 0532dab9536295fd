section LIMG0
variable {h : pm_H} {A B : Nat → List Int32} {I : Nat → Int32} {z : cz_N} {im : Nat → dp_P} {st ca : dp_K} {sd : Nat → List Int32 × dp_P} {ws ta : List Nat} {f : Bool} {S : tr_S} {T : te_T}
theorem lw_b15 (hb : dp_R h 0 z im st ca sd ws ta f S) {i : Nat} (hi : i < 4) : (im i).length ≤ 15 := by
  obtain ⟨c1, c2, c3, c4, -⟩ := hb
  obtain ⟨es, is, -, -, -, -, -, -, -, q⟩ := c4 i hi
  exact q
theorem lw_made {im' : Nat → dp_P} {L : dp_K} {J : Nat → Int32} {i : Nat} (hs : lw_s A I z im st ca sd ws ta T) (l6 : ca.length ≤ 6) (hi : i < 4) (h1 : mi B im') (h2 : mk B (40 * 0) L) (hm : mm_ag i A B) (j5 : J 5 = nI L.length) (jo : ∀ j, j ≠ 0 → j ≠ 5 → J j = I j) : lw_s B J z im' L ca sd ws ta T := by
  obtain ⟨s1, s2, s3, s4, s5, s6, s7, s8, s9, s10⟩ := hs
  obtain ⟨m1, m2, m3, m4, m5, m6⟩ := id hm
  have hr : ∀ j, j ≠ 1 → j ≠ 7 → j ≠ 8 → j ≠ 9 → j ≠ 10 → j ≠ 11 → j ≠ 13 → j ≠ 14 → B j = A j := m1
  refine ⟨mt_rows s1 (hr 3 (by omega) (by omega) (by omega) (by omega) (by omega) (by omega) (by omega) (by omega)) (hr 4 (by omega) (by omega) (by omega) (by omega) (by omega) (by omega) (by omega) (by omega)) (hr 5 (by omega) (by omega) (by omega) (by omega) (by omega) (by omega) (by omega) (by omega)) (hr 6 (by omega) (by omega) (by omega) (by omega) (by omega) (by omega) (by omega) (by omega)), h1, h2, j5, mk_of s5 (fun t h1 _ => m5 13 t (Or.inl rfl) (by omega)) (fun t h1 _ => m5 14 t (Or.inr rfl) (by omega)) (fun t h1 _ => m6 t (by omega)), by rw [jo 6 (by omega) (by omega)]; exact s6, fun s hs2 => ?_, mo_of s8 (fun t a b => m6 t (by omega)) (jo 1 (by omega) (by omega)), mta_of s9 (fun j _ _ => jo j (by omega) (by omega)), mI_of s10 (fun j _ _ => jo j (by omega) (by omega))⟩
  obtain ⟨q1, q2, q3, q4⟩ := s7 s hs2
  refine ⟨by rw [hr 2 (by omega) (by omega) (by omega) (by omega) (by omega) (by omega) (by omega) (by omega)]; exact q1, q2, fun t ht => ?_, hm.ml (by omega) (by omega) q4⟩
  rw [m6 _ (by omega)]
  exact q3 t ht
theorem lw_disc {im' : Nat → dp_P} (hs : lw_s A I z im st ca sd ws ta T) (h1 : mi B im') (hr : ∀ j, j ≠ 11 → B j = A j) : lw_s B I z im' st ca sd ws ta T := by
  obtain ⟨s1, s2, s3, s4, s5, s6, s7, s8, s9, s10⟩ := hs
  have r1 := hr 1 (by omega)
  exact ⟨mt_rows s1 (hr 3 (by omega)) (hr 4 (by omega)) (hr 5 (by omega)) (hr 6 (by omega)), h1, mk_same s3 (hr 13 (by omega)) (hr 14 (by omega)) (fun j _ => by rw [r1]), s4, mk_same s5 (hr 13 (by omega)) (hr 14 (by omega)) (fun j _ => by rw [r1]), s6, mse_rows s7 (fun t _ _ => by rw [r1]) (hr 2 (by omega)) (hr 7 (by omega)) (hr 8 (by omega)) (hr 9 (by omega)) (hr 10 (by omega)), mo_rows s8 r1, s9, s10⟩
theorem lw_fold (hs : lw_s A I z im st ca sd ws ta T) (hr : ∀ j, j ≠ 12 → B j = A j) : lw_s B I z im st ca sd ws ta T := by
  obtain ⟨s1, s2, s3, s4, s5, s6, s7, s8, s9, s10⟩ := hs
  have r1 := hr 1 (by omega)
  exact ⟨mt_rows s1 (hr 3 (by omega)) (hr 4 (by omega)) (hr 5 (by omega)) (hr 6 (by omega)), mi_rows s2 (hr 7 (by omega)) (hr 8 (by omega)) (hr 9 (by omega)) (hr 10 (by omega)) (hr 11 (by omega)), mk_same s3 (hr 13 (by omega)) (hr 14 (by omega)) (fun j _ => by rw [r1]), s4, mk_same s5 (hr 13 (by omega)) (hr 14 (by omega)) (fun j _ => by rw [r1]), s6, mse_rows s7 (fun t _ _ => by rw [r1]) (hr 2 (by omega)) (hr 7 (by omega)) (hr 8 (by omega)) (hr 9 (by omega)) (hr 10 (by omega)), mo_rows s8 r1, s9, s10⟩
theorem dm_u {L L1 L2 : dp_K} {w a v : Int32} (hl : ∀ j, j < L.length → (kp_b L j).length ≤ 32) (h1 : dm_R L w a v L1) (h2 : dm_R L w a v L2) : L1 = L2 := by
  obtain ⟨p, p1, p2, p3, p4⟩ := h1
  obtain ⟨q, q1, q2, q3, q4⟩ := h2
  have e : p = q := by
    rcases Nat.lt_trichotomy p q with r | r | r
    · exact absurd p2 (q3 p r)
    · exact r
    · exact absurd q2 (p3 q r)
  subst e
  have hlp := hl p p1
  rcases p4 with ⟨a1, e1⟩ | ⟨a1, i, j, i1, i2, j1, j2, e1⟩
  · rcases q4 with ⟨b1, e2⟩ | ⟨b1, -⟩
    · rw [e1, e2]
    · exact absurd a1 b1
  · rcases q4 with ⟨b1, e2⟩ | ⟨b1, i', j', k1, k2, l1, l2, e2⟩
    · exact absurd b1 a1
    · have ei := nI_u (by omega) (by omega) i2 k2
      have ej := nI_u (by omega) (by omega) j2 l2
      rw [e1, e2, ei, ej]
end LIMG0
section LIMG
variable {xs : List Int32} {h : pm_H} {z : cz_N} {i c : Nat} {Q : Option Value → pm_H → Prop}
set_option maxRecDepth 100000 in
theorem lw_c4 (H : lw_h h z c) (hi : i + 5 < xs.length) (hx : xs.length ≤ 4000) (K : ∀ h', lw_h h' z (c + 1) → pm_W xs 8 pt_law 690 [.retAddr 1, .ref 0, .ref 185, .int (nI i)] [] h' Q) : pm_W xs 8 pt_law 294 [.retAddr 1, .ref 0, .ref 185, .int (nI i)] [] h Q := by
  obtain ⟨im, st, ca, sd, ws, ta, f, S, T, A, I, hD, hM, hs, hv, n1, n2⟩ := id H
  obtain ⟨b1, b2, b3, b4, b5⟩ := lw_b hD
  obtain ⟨s1, s2, s3, s4, s5, s6, s7, s8, s9, s10⟩ := id hs
  have ew := em_ws_out hv.2.1 hv.2.2.1 b5
  have hl := lw_out hv.2.1
  have hok := em_out_ok hv.2.1
  have hPV := pl_V_le ((cz_cut_V hv.1 (bs := em_out T) (em_out T).length (Nat.le_refl _)).1) hl
  change pl_V (dp_cut z (em_out T)) 117 at hPV
  have cD := ct_D_make (xs := xs) (Q := fun v h1 => pm_W xs 8 pt_law 298 [.retAddr 1, .ref 0, .ref 185, .int (nI i)] (v.toList ++ []) h1 Q) hD hv.1 (lw_by hv.2.1 hv.2.2.1) (by rw [ew]; exact hl) (by rw [ew]; exact hok)
  rw [ew] at cD
  (iterate 1 (first | refine pm_W.ts rfl rfl ?_ | refine pm_W.tl rfl rfl ?_))
  refine pm_W.callV (d' := 5) (as := []) rfl rfl rfl rfl (fr_ble rfl) hD.1 (fr_ble rfl) (cD (fun hall => ?_) (fun k k4 ke kj kf h1 hD1 g1 => ?_) (fun k k4 ke kj kf h1 hD1 g1 => ?_))
  · (iterate 1 (first | refine pm_W.ts rfl rfl ?_ | refine pm_W.tl rfl rfl ?_))
    refine pm_W.callV (d' := 4) (as := []) rfl rfl rfl rfl (fr_ble rfl) hM.1 (fr_ble rfl) (ct_M_make hM s1 hv.2.1 s10 hv.1 s2 s3 s4 b1 (fun _ => ?_) (fun k k4 ke => absurd ke (hall k k4)) (fun k k4 ke => absurd ke (hall k k4)))
    exact pm_W.icmp rfl (fun _ => K h (lw_up H)) (fun q => absurd rfl q)
  · have hM1 := hM.ag g1 (Or.inr (by omega))
    (iterate 1 (first | refine pm_W.ts rfl rfl ?_ | refine pm_W.tl rfl rfl ?_))
    refine pm_W.callV (d' := 4) (as := []) rfl rfl rfl rfl (fr_ble rfl) hM1.1 (fr_ble rfl) (ct_M_make hM1 s1 hv.2.1 s10 hv.1 s2 s3 s4 b1 (fun hall => absurd ke (hall k k4)) (fun k' k4' ke' kj' kf' g B y hM2 m1 m2 m3 g2 => ?_) (fun k' k4' ke' kj' kf' => absurd kf (by omega)))
    exact pm_W.icmp rfl (fun _ => K g ⟨im, st, ca, sd, ws, ta, f, S, T, B, _, hD1.uout g2 (Or.inr (by omega)), hM2, lw_made hs b2 k4' m1 m2 m3 (by rw [fr_up_n (by omega)]; exact s4) (fun j j0 _ => fr_up_n j0), hv, by rw [g2.2.1, g1.2.1]; omega, by rw [g2.1, g1.1]; omega⟩) (fun q => absurd rfl q)
  · have hM1 := hM.ag g1 (Or.inr (by omega))
    (iterate 1 (first | refine pm_W.ts rfl rfl ?_ | refine pm_W.tl rfl rfl ?_))
    refine pm_W.callV (d' := 4) (as := []) rfl rfl rfl rfl (fr_ble rfl) hM1.1 (fr_ble rfl) (ct_M_make hM1 s1 hv.2.1 s10 hv.1 s2 s3 s4 b1 (fun hall => absurd ke (hall k k4)) (fun k' k4' ke' kj' kf' => absurd kf (by omega)) (fun k' k4' ke' kj' kf' g B y hM2 m1 m2 m3 g2 => ?_))
    have ek : k' = k := by
      rcases Nat.lt_trichotomy k' k with q | q | q
      · exact absurd ke' (kj k' q)
      · exact q
      · exact absurd ke (kj' k q)
    subst ek
    refine pm_W.icmp rfl (fun _ => K g ⟨_, _, ca, sd, ws, ta, f, S, T, B, _, hD1.uout g2 (Or.inr (by omega)), hM2, lw_made hs b2 k4' m1 m2 m3 fr_up_s (fun j j0 j5 => by rw [fr_up_n j5, fr_up_n j0]), ⟨hv.1, hv.2.1, hv.2.2.1, fun t ht => ?_, ms_by hv.2.2.2.2.1 hok _, hv.2.2.2.2.2⟩, by rw [g2.2.1, g1.2.1]; omega, by rw [g2.1, g1.1]; omega⟩) (fun q => absurd rfl q)
    by_cases ct : t = k'
    · rw [ct, fr_up_s]; exact hPV
    · rw [fr_up_n ct]; exact hv.2.2.2.1 t ht
set_option maxRecDepth 100000 in
theorem lw_c5 (H : lw_h h z c) (hi : i + 5 < xs.length) (hx : xs.length ≤ 4000) (K : ∀ h', lw_h h' z (c + 1) → pm_W xs 8 pt_law 690 [.retAddr 1, .ref 0, .ref 185, .int (nI i)] [] h' Q) : pm_W xs 8 pt_law 307 [.retAddr 1, .ref 0, .ref 185, .int (nI i)] [] h Q := by
  obtain ⟨im, st, ca, sd, ws, ta, f, S, T, A, I, hD, hM, hs, hv, n1, n2⟩ := id H
  obtain ⟨a1, e1⟩ : ∃ a, xs.getD (i + 1) 0 = a := ⟨_, rfl⟩
  (iterate 5 (first | refine pm_W.ts rfl rfl ?_ | refine pm_W.tl rfl rfl ?_))
  rw [show nI i + Int32.ofInt 1 = nI (i + 1) from nI_add i 1]
  refine pm_W.sald rfl (pm_ix_ok (j := i + 1) (by omega) (by omega)) ?_
  rw [e1]
  refine pm_W.callV (d' := 2) (as := [.int a1]) rfl rfl rfl rfl (fr_ble rfl) hD.1 (fr_ble rfl) (ct_D_discard hD (fun k k4 kx kne h1 hD1 g1 => ?_) (fun hno => ?_))
  · have hM1 := hM.ag g1 (Or.inr (by omega))
    (iterate 5 (first | refine pm_W.ts rfl rfl ?_ | refine pm_W.tl rfl rfl ?_))
    rw [show nI i + Int32.ofInt 1 = nI (i + 1) from nI_add i 1]
    refine pm_W.sald rfl (pm_ix_ok (j := i + 1) (by omega) (by omega)) ?_
    rw [e1]
    refine pm_W.callV (d' := 1) (as := [.int a1]) rfl rfl rfl rfl (fr_ble rfl) hM1.1 (fr_ble rfl) (ct_M_discard hM1 hs.2.1 (fun k' k4' kx' kne' g B hM2 m1 m2 g2 => ?_) (fun hno => absurd (hno k k4 kx) kne))
    have ek : k' = k := nI_u (by omega) (by omega) kx' kx
    subst ek
    refine pm_W.icmp rfl (fun _ => K g ⟨_, st, ca, sd, ws, ta, f, S, T, B, I, hD1.uout g2 (Or.inr (by omega)), hM2, lw_disc hs m1 m2, ⟨hv.1, hv.2.1, hv.2.2.1, fun t ht => ?_, hv.2.2.2.2⟩, by rw [g2.2.1, g1.2.1]; omega, by rw [g2.1, g1.1]; omega⟩) (fun q => absurd rfl q)
    by_cases ct : t = k'
    · rw [ct, fr_up_s]; exact fun j hj => absurd hj (Nat.not_lt_zero _)
    · rw [fr_up_n ct]; exact hv.2.2.2.1 t ht
  · (iterate 5 (first | refine pm_W.ts rfl rfl ?_ | refine pm_W.tl rfl rfl ?_))
    rw [show nI i + Int32.ofInt 1 = nI (i + 1) from nI_add i 1]
    refine pm_W.sald rfl (pm_ix_ok (j := i + 1) (by omega) (by omega)) ?_
    rw [e1]
    refine pm_W.callV (d' := 1) (as := [.int a1]) rfl rfl rfl rfl (fr_ble rfl) hM.1 (fr_ble rfl) (ct_M_discard hM hs.2.1 (fun k' k4' kx' kne' g B hM2 m1 m2 g2 => absurd (hno k' k4' kx') kne') (fun _ => ?_))
    exact pm_W.icmp rfl (fun _ => K h (lw_up H)) (fun q => absurd rfl q)
set_option maxRecDepth 100000 in
theorem lw_c6 (H : lw_h h z c) (hi : i + 5 < xs.length) (hx : xs.length ≤ 4000) (K : ∀ h', lw_h h' z (c + 1) → pm_W xs 8 pt_law 690 [.retAddr 1, .ref 0, .ref 185, .int (nI i)] [] h' Q) : pm_W xs 8 pt_law 330 [.retAddr 1, .ref 0, .ref 185, .int (nI i)] [] h Q := by
  obtain ⟨im, st, ca, sd, ws, ta, f, S, T, A, I, hD, hM, hs, hv, n1, n2⟩ := id H
  obtain ⟨b1, b2, b3, b4, b5⟩ := lw_b hD
  (iterate 1 (first | refine pm_W.ts rfl rfl ?_ | refine pm_W.tl rfl rfl ?_))
  refine pm_W.callV (d' := 2) (as := []) rfl rfl rfl rfl (fr_ble rfl) hD.1 (fr_ble rfl) (ct_D_collect hD (fun h1 hD1 g1 => ?_))
  have hM1 := hM.ag g1 (Or.inr (by omega))
  (iterate 1 (first | refine pm_W.ts rfl rfl ?_ | refine pm_W.tl rfl rfl ?_))
  refine pm_W.callV (d' := 2) (as := []) rfl rfl rfl rfl (fr_ble rfl) hM1.1 (fr_ble rfl) (ct_M_collect hM1 hs.2.1 hs.2.2.1 hs.2.2.2.1 b1 (fun g B hM2 m1 m2 g2 => ?_))
  exact pm_W.icmp rfl (fun _ => K g ⟨im, _, ca, sd, ws, ta, f, S, T, B, _, hD1.uout g2 (Or.inr (by omega)), hM2, lw_kp0 hs b2 m1 m2, ⟨hv.1, hv.2.1, hv.2.2.1, hv.2.2.2.1, cl_by _ _ _ hv.2.2.2.2.1, hv.2.2.2.2.2⟩, by rw [g2.2.1, g1.2.1]; omega, by rw [g2.1, g1.1]; omega⟩) (fun q => absurd rfl q)
set_option maxRecDepth 100000 in
theorem lw_c7 (H : lw_h h z c) (hi : i + 5 < xs.length) (hx : xs.length ≤ 4000) (K : ∀ h', lw_h h' z (c + 1) → pm_W xs 8 pt_law 690 [.retAddr 1, .ref 0, .ref 185, .int (nI i)] [] h' Q) : pm_W xs 8 pt_law 343 [.retAddr 1, .ref 0, .ref 185, .int (nI i)] [] h Q := by
  obtain ⟨im, st, ca, sd, ws, ta, f, S, T, A, I, hD, hM, hs, hv, n1, n2⟩ := id H
  obtain ⟨a1, e1⟩ : ∃ a, xs.getD (i + 1) 0 = a := ⟨_, rfl⟩
  have hlen : 200 ≤ h.1.length := by
    have := (hM.2 14 (by omega) (by omega)).1
    have := (List.getElem?_eq_some_iff.mp this).1
    omega
  (iterate 5 (first | refine pm_W.ts rfl rfl ?_ | refine pm_W.tl rfl rfl ?_))
  rw [show nI i + Int32.ofInt 1 = nI (i + 1) from nI_add i 1]
  refine pm_W.sald rfl (pm_ix_ok (j := i + 1) (by omega) (by omega)) ?_
  rw [e1]
  refine pm_W.callV (d' := 3) (as := [.int a1]) rfl rfl rfl rfl (fr_ble rfl) hD.1 (fr_ble rfl) (ct_D_root hD (fun k k4 kx kne X => ?_) (fun hno => ?_))
  · have keep : ∀ j, j < 200 → (h.1 ++ [(.inl (false, X) : pm_C)])[j]? = h.1[j]? := fun j hj => List.getElem?_append_left (by omega)
    have hD1 : dp_R (h.1 ++ [.inl (false, X)], h.2 + 15) 0 z im st ca sd ws ta f S := hD.ukeep (fun j _ hj => keep j (by omega))
    have hM1 : mr_R (h.1 ++ [.inl (false, X)], h.2 + 15) 185 A I := hM.keep (fun j _ hj => keep j (by omega))
    (iterate 5 (first | refine pm_W.ts rfl rfl ?_ | refine pm_W.tl rfl rfl ?_))
    rw [show nI i + Int32.ofInt 1 = nI (i + 1) from nI_add i 1]
    refine pm_W.sald rfl (pm_ix_ok (j := i + 1) (by omega) (by omega)) ?_
    rw [e1]
    refine pm_W.callV (d' := 1) (as := [.int a1]) rfl rfl rfl rfl (fr_ble rfl) hM1.1 (fr_ble rfl) (ct_M_root hM1 hs.2.1 (fun k' k4' kx' kne' g B hM2 m1 g2 => ?_) (fun hno => absurd (hno k k4 kx) kne))
    have ek : k' = k := nI_u (by omega) (by omega) kx' kx
    subst ek
    exact pm_W.icmp rfl (fun _ => K g ⟨im, st, ca, sd, ws, ta, f, S, T, B, I, hD1.uout g2 (Or.inr (by omega)), hM2, lw_fold hs m1, hv, by rw [g2.2.1]; show (h.1 ++ [_]).length ≤ _; rw [List.length_append, List.length_singleton]; omega, by rw [g2.1]; show h.2 + 15 ≤ _; omega⟩) (fun q => absurd rfl q)
  · (iterate 5 (first | refine pm_W.ts rfl rfl ?_ | refine pm_W.tl rfl rfl ?_))
    rw [show nI i + Int32.ofInt 1 = nI (i + 1) from nI_add i 1]
    refine pm_W.sald rfl (pm_ix_ok (j := i + 1) (by omega) (by omega)) ?_
    rw [e1]
    refine pm_W.callV (d' := 1) (as := [.int a1]) rfl rfl rfl rfl (fr_ble rfl) hM.1 (fr_ble rfl) (ct_M_root hM hs.2.1 (fun k' k4' kx' kne' g B hM2 m1 g2 => absurd (hno k' k4' kx') kne') (fun _ => ?_))
    exact pm_W.icmp rfl (fun _ => K h (lw_up H)) (fun q => absurd rfl q)
set_option maxRecDepth 100000 in
theorem lw_c8 (H : lw_h h z c) (hi : i + 5 < xs.length) (hx : xs.length ≤ 4000) (K : ∀ h', lw_h h' z (c + 1) → pm_W xs 8 pt_law 690 [.retAddr 1, .ref 0, .ref 185, .int (nI i)] [] h' Q) : pm_W xs 8 pt_law 366 [.retAddr 1, .ref 0, .ref 185, .int (nI i)] [] h Q := by
  obtain ⟨im, st, ca, sd, ws, ta, f, S, T, A, I, hD, hM, hs, hv, n1, n2⟩ := id H
  obtain ⟨a1, e1⟩ : ∃ a, xs.getD (i + 1) 0 = a := ⟨_, rfl⟩
  obtain ⟨a2, e2⟩ : ∃ a, xs.getD (i + 2) 0 = a := ⟨_, rfl⟩
  have cmp : ∀ x : Int64, pm_W xs 8 pt_law 394 [.retAddr 1, .ref 0, .ref 185, .int (nI i)] [.long x, .long x] h Q := by
    intro x
    (iterate 1 (first | refine pm_W.ts rfl rfl ?_ | refine pm_W.tl rfl rfl ?_))
    refine pm_W.ifz rfl (fun _ => K h (lw_up H)) (fun q => ?_)
    exfalso
    apply q
    show (if x > x then (1 : Int32) else if x = x then 0 else -1) = 0
    rw [if_neg (by simp), if_pos rfl]
  (iterate 5 (first | refine pm_W.ts rfl rfl ?_ | refine pm_W.tl rfl rfl ?_))
  rw [show nI i + Int32.ofInt 1 = nI (i + 1) from nI_add i 1]
  refine pm_W.sald rfl (pm_ix_ok (j := i + 1) (by omega) (by omega)) ?_
  rw [e1]
  (iterate 4 (first | refine pm_W.ts rfl rfl ?_ | refine pm_W.tl rfl rfl ?_))
  rw [show nI i + Int32.ofInt 2 = nI (i + 2) from nI_add i 2]
  refine pm_W.sald rfl (pm_ix_ok (j := i + 2) (by omega) (by omega)) ?_
  rw [e2]
  refine pm_W.callV (d' := 2) (as := [.int a1, .int a2]) rfl rfl rfl rfl (fr_ble rfl) hD.1 (fr_ble rfl) (ct_D_piece hD (fun k t k4 kx tl ty => ?_) (fun hno => ?_))
  · (iterate 5 (first | refine pm_W.ts rfl rfl ?_ | refine pm_W.tl rfl rfl ?_))
    rw [show nI i + Int32.ofInt 1 = nI (i + 1) from nI_add i 1]
    refine pm_W.sald rfl (pm_ix_ok (j := i + 1) (by omega) (by omega)) ?_
    rw [e1]
    (iterate 4 (first | refine pm_W.ts rfl rfl ?_ | refine pm_W.tl rfl rfl ?_))
    rw [show nI i + Int32.ofInt 2 = nI (i + 2) from nI_add i 2]
    refine pm_W.sald rfl (pm_ix_ok (j := i + 2) (by omega) (by omega)) ?_
    rw [e2]
    refine pm_W.callV (d' := 2) (as := [.int a1, .int a2]) rfl rfl rfl rfl (fr_ble rfl) hM.1 (fr_ble rfl) (ct_M_piece hM hs.2.1 hv.2.2.2.1 (fun k' t' k4' kx' tl' ty' => ?_) (fun hno => absurd ty (hno k t k4 kx tl)))
    have ek : k' = k := nI_u (by omega) (by omega) kx' kx
    subst ek
    have := lw_b15 hD k4
    have et : t' = t := nI_u (by omega) (by omega) ty' ty
    subst et
    exact cmp _
  · (iterate 5 (first | refine pm_W.ts rfl rfl ?_ | refine pm_W.tl rfl rfl ?_))
    rw [show nI i + Int32.ofInt 1 = nI (i + 1) from nI_add i 1]
    refine pm_W.sald rfl (pm_ix_ok (j := i + 1) (by omega) (by omega)) ?_
    rw [e1]
    (iterate 4 (first | refine pm_W.ts rfl rfl ?_ | refine pm_W.tl rfl rfl ?_))
    rw [show nI i + Int32.ofInt 2 = nI (i + 2) from nI_add i 2]
    refine pm_W.sald rfl (pm_ix_ok (j := i + 2) (by omega) (by omega)) ?_
    rw [e2]
    refine pm_W.callV (d' := 2) (as := [.int a1, .int a2]) rfl rfl rfl rfl (fr_ble rfl) hM.1 (fr_ble rfl) (ct_M_piece hM hs.2.1 hv.2.2.2.1 (fun k' t' k4' kx' tl' ty' => absurd ty' (hno k' t' k4' kx' tl')) (fun _ => ?_))
    exact cmp _
set_option maxRecDepth 100000 in
theorem lw_c9 (H : lw_h h z c) (hi : i + 5 < xs.length) (hx : xs.length ≤ 4000) (K : ∀ h', lw_h h' z (c + 1) → pm_W xs 8 pt_law 690 [.retAddr 1, .ref 0, .ref 185, .int (nI i)] [] h' Q) : pm_W xs 8 pt_law 400 [.retAddr 1, .ref 0, .ref 185, .int (nI i)] [] h Q := by
  obtain ⟨im, st, ca, sd, ws, ta, f, S, T, A, I, hD, hM, hs, hv, n1, n2⟩ := id H
  obtain ⟨b1, b2, b3, b4, b5⟩ := lw_b hD
  obtain ⟨a1, e1⟩ : ∃ a, xs.getD (i + 1) 0 = a := ⟨_, rfl⟩
  obtain ⟨a2, e2⟩ : ∃ a, xs.getD (i + 2) 0 = a := ⟨_, rfl⟩
  obtain ⟨a3, e3⟩ : ∃ a, xs.getD (i + 3) 0 = a := ⟨_, rfl⟩
  obtain ⟨a4, e4⟩ : ∃ a, xs.getD (i + 4) 0 = a := ⟨_, rfl⟩
  obtain ⟨a5, e5⟩ : ∃ a, xs.getD (i + 5) 0 = a := ⟨_, rfl⟩
  obtain ⟨s1, s2, s3, s4, s5, s6, s7, s8, s9, s10⟩ := id hs
  have h01 : (0 : Int32) ≠ 1 := by decide
  (iterate 5 (first | refine pm_W.ts rfl rfl ?_ | refine pm_W.tl rfl rfl ?_))
  rw [show nI i + Int32.ofInt 1 = nI (i + 1) from nI_add i 1]
  refine pm_W.sald rfl (pm_ix_ok (j := i + 1) (by omega) (by omega)) ?_
  rw [e1]
  (iterate 4 (first | refine pm_W.ts rfl rfl ?_ | refine pm_W.tl rfl rfl ?_))
  rw [show nI i + Int32.ofInt 2 = nI (i + 2) from nI_add i 2]
  refine pm_W.sald rfl (pm_ix_ok (j := i + 2) (by omega) (by omega)) ?_
  rw [e2]
  (iterate 4 (first | refine pm_W.ts rfl rfl ?_ | refine pm_W.tl rfl rfl ?_))
  rw [show nI i + Int32.ofInt 3 = nI (i + 3) from nI_add i 3]
  refine pm_W.sald rfl (pm_ix_ok (j := i + 3) (by omega) (by omega)) ?_
  rw [e3]
  (iterate 4 (first | refine pm_W.ts rfl rfl ?_ | refine pm_W.tl rfl rfl ?_))
  rw [show nI i + Int32.ofInt 4 = nI (i + 4) from nI_add i 4]
  refine pm_W.sald rfl (pm_ix_ok (j := i + 4) (by omega) (by omega)) ?_
  rw [e4]
  (iterate 4 (first | refine pm_W.ts rfl rfl ?_ | refine pm_W.tl rfl rfl ?_))
  rw [show nI i + Int32.ofInt 5 = nI (i + 5) from nI_add i 5]
  refine pm_W.sald rfl (pm_ix_ok (j := i + 5) (by omega) (by omega)) ?_
  rw [e5]
  refine pm_W.callV (d' := 2) (as := [.int a1, .int a2, .int a3, .int a4, .int a5]) rfl rfl rfl rfl (fr_ble rfl) hD.1 (fr_ble rfl) (ct_D_damage hD (fun k t k4 kx tl ty x0 L hL h1 hD1 g1 => ?_) (fun k t k4 kx tl ty x0 L hL h1 hD1 g1 => ?_) (fun hno => ?_))
  · have hM1 := hM.ag g1 (Or.inr (by omega))
    (iterate 5 (first | refine pm_W.ts rfl rfl ?_ | refine pm_W.tl rfl rfl ?_))
    rw [show nI i + Int32.ofInt 1 = nI (i + 1) from nI_add i 1]
    refine pm_W.sald rfl (pm_ix_ok (j := i + 1) (by omega) (by omega)) ?_
    rw [e1]
    (iterate 4 (first | refine pm_W.ts rfl rfl ?_ | refine pm_W.tl rfl rfl ?_))
    rw [show nI i + Int32.ofInt 2 = nI (i + 2) from nI_add i 2]
    refine pm_W.sald rfl (pm_ix_ok (j := i + 2) (by omega) (by omega)) ?_
    rw [e2]
    (iterate 4 (first | refine pm_W.ts rfl rfl ?_ | refine pm_W.tl rfl rfl ?_))
    rw [show nI i + Int32.ofInt 3 = nI (i + 3) from nI_add i 3]
    refine pm_W.sald rfl (pm_ix_ok (j := i + 3) (by omega) (by omega)) ?_
    rw [e3]
    (iterate 4 (first | refine pm_W.ts rfl rfl ?_ | refine pm_W.tl rfl rfl ?_))
    rw [show nI i + Int32.ofInt 4 = nI (i + 4) from nI_add i 4]
    refine pm_W.sald rfl (pm_ix_ok (j := i + 4) (by omega) (by omega)) ?_
    rw [e4]
    (iterate 4 (first | refine pm_W.ts rfl rfl ?_ | refine pm_W.tl rfl rfl ?_))
    rw [show nI i + Int32.ofInt 5 = nI (i + 5) from nI_add i 5]
    refine pm_W.sald rfl (pm_ix_ok (j := i + 5) (by omega) (by omega)) ?_
    rw [e5]
    refine pm_W.callV (d' := 2) (as := [.int a1, .int a2, .int a3, .int a4, .int a5]) rfl rfl rfl rfl (fr_ble rfl) hM1.1 (fr_ble rfl) (ct_M_damage hM1 s2 s3 s4 b1 s5 s6 b2 (fun k' t' k4' kx' tl' ty' x0' L' hL' g B hM2 m1 m2 g2 => ?_) (fun k' t' k4' kx' tl' ty' x1' => absurd (x0.symm.trans x1') h01) (fun hno => absurd hL ((hno k t k4 kx tl ty).1 x0 L)))
    have ek : k' = k := nI_u (by omega) (by omega) kx' kx
    subst ek
    have := lw_b15 hD k4
    have et : t' = t := nI_u (by omega) (by omega) ty' ty
    subst et
    have eL := dm_u (fun j hj => (s3 j hj).2.2.1) hL' hL
    subst eL
    exact pm_W.icmp rfl (fun _ => K g ⟨im, _, ca, sd, ws, ta, f, S, T, B, _, hD1.uout g2 (Or.inr (by omega)), hM2, lw_kp0 hs b2 m1 m2, ⟨hv.1, hv.2.1, hv.2.2.1, hv.2.2.2.1, dm_by hv.2.2.2.2.1 hL, hv.2.2.2.2.2⟩, by rw [g2.2.1, g1.2.1]; omega, by rw [g2.1, g1.1]; omega⟩) (fun q => absurd rfl q)
  · have hM1 := hM.ag g1 (Or.inr (by omega))
    (iterate 5 (first | refine pm_W.ts rfl rfl ?_ | refine pm_W.tl rfl rfl ?_))
    rw [show nI i + Int32.ofInt 1 = nI (i + 1) from nI_add i 1]
    refine pm_W.sald rfl (pm_ix_ok (j := i + 1) (by omega) (by omega)) ?_
    rw [e1]
    (iterate 4 (first | refine pm_W.ts rfl rfl ?_ | refine pm_W.tl rfl rfl ?_))
    rw [show nI i + Int32.ofInt 2 = nI (i + 2) from nI_add i 2]
    refine pm_W.sald rfl (pm_ix_ok (j := i + 2) (by omega) (by omega)) ?_
    rw [e2]
    (iterate 4 (first | refine pm_W.ts rfl rfl ?_ | refine pm_W.tl rfl rfl ?_))
    rw [show nI i + Int32.ofInt 3 = nI (i + 3) from nI_add i 3]
    refine pm_W.sald rfl (pm_ix_ok (j := i + 3) (by omega) (by omega)) ?_
    rw [e3]
    (iterate 4 (first | refine pm_W.ts rfl rfl ?_ | refine pm_W.tl rfl rfl ?_))
    rw [show nI i + Int32.ofInt 4 = nI (i + 4) from nI_add i 4]
    refine pm_W.sald rfl (pm_ix_ok (j := i + 4) (by omega) (by omega)) ?_
    rw [e4]
    (iterate 4 (first | refine pm_W.ts rfl rfl ?_ | refine pm_W.tl rfl rfl ?_))
    rw [show nI i + Int32.ofInt 5 = nI (i + 5) from nI_add i 5]
    refine pm_W.sald rfl (pm_ix_ok (j := i + 5) (by omega) (by omega)) ?_
    rw [e5]
    refine pm_W.callV (d' := 2) (as := [.int a1, .int a2, .int a3, .int a4, .int a5]) rfl rfl rfl rfl (fr_ble rfl) hM1.1 (fr_ble rfl) (ct_M_damage hM1 s2 s3 s4 b1 s5 s6 b2 (fun k' t' k4' kx' tl' ty' x1' => absurd (x1'.symm.trans x0) h01) (fun k' t' k4' kx' tl' ty' x0' L' hL' g B hM2 m1 m2 g2 => ?_) (fun hno => absurd hL ((hno k t k4 kx tl ty).2 x0 L)))
    have ek : k' = k := nI_u (by omega) (by omega) kx' kx
    subst ek
    have := lw_b15 hD k4
    have et : t' = t := nI_u (by omega) (by omega) ty' ty
    subst et
    have eL := dm_u (fun j hj => (s5 j hj).2.2.1) hL' hL
    subst eL
    exact pm_W.icmp rfl (fun _ => K g ⟨im, st, _, sd, ws, ta, f, S, T, B, _, hD1.uout g2 (Or.inr (by omega)), hM2, lw_kp1 hs b1 m1 m2, ⟨hv.1, hv.2.1, hv.2.2.1, hv.2.2.2.1, hv.2.2.2.2.1, dm_by hv.2.2.2.2.2.1 hL, hv.2.2.2.2.2.2⟩, by rw [g2.2.1, g1.2.1]; omega, by rw [g2.1, g1.1]; omega⟩) (fun q => absurd rfl q)
  · (iterate 5 (first | refine pm_W.ts rfl rfl ?_ | refine pm_W.tl rfl rfl ?_))
    rw [show nI i + Int32.ofInt 1 = nI (i + 1) from nI_add i 1]
    refine pm_W.sald rfl (pm_ix_ok (j := i + 1) (by omega) (by omega)) ?_
    rw [e1]
    (iterate 4 (first | refine pm_W.ts rfl rfl ?_ | refine pm_W.tl rfl rfl ?_))
    rw [show nI i + Int32.ofInt 2 = nI (i + 2) from nI_add i 2]
    refine pm_W.sald rfl (pm_ix_ok (j := i + 2) (by omega) (by omega)) ?_
    rw [e2]
    (iterate 4 (first | refine pm_W.ts rfl rfl ?_ | refine pm_W.tl rfl rfl ?_))
    rw [show nI i + Int32.ofInt 3 = nI (i + 3) from nI_add i 3]
    refine pm_W.sald rfl (pm_ix_ok (j := i + 3) (by omega) (by omega)) ?_
    rw [e3]
    (iterate 4 (first | refine pm_W.ts rfl rfl ?_ | refine pm_W.tl rfl rfl ?_))
    rw [show nI i + Int32.ofInt 4 = nI (i + 4) from nI_add i 4]
    refine pm_W.sald rfl (pm_ix_ok (j := i + 4) (by omega) (by omega)) ?_
    rw [e4]
    (iterate 4 (first | refine pm_W.ts rfl rfl ?_ | refine pm_W.tl rfl rfl ?_))
    rw [show nI i + Int32.ofInt 5 = nI (i + 5) from nI_add i 5]
    refine pm_W.sald rfl (pm_ix_ok (j := i + 5) (by omega) (by omega)) ?_
    rw [e5]
    refine pm_W.callV (d' := 2) (as := [.int a1, .int a2, .int a3, .int a4, .int a5]) rfl rfl rfl rfl (fr_ble rfl) hM.1 (fr_ble rfl) (ct_M_damage hM s2 s3 s4 b1 s5 s6 b2 (fun k' t' k4' kx' tl' ty' x0' L' hL' => absurd hL' ((hno k' t' k4' kx' tl' ty').1 x0' L')) (fun k' t' k4' kx' tl' ty' x0' L' hL' => absurd hL' ((hno k' t' k4' kx' tl' ty').2 x0' L')) (fun _ => ?_))
    exact pm_W.icmp rfl (fun _ => K h (lw_up H)) (fun q => absurd rfl q)
end LIMG
