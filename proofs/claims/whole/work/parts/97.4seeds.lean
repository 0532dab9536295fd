section LSEED0
variable {A B : Nat → List Int32} {I : Nat → Int32} {z : cz_N} {im : Nat → dp_P} {st ca : dp_K} {sd sd' : Nat → List Int32 × dp_P} {ws ta : List Nat} {T : te_T}
theorem lw_seeded {J : Nat → Int32} (hs : lw_s A I z im st ca sd ws ta T) (hm : mse B sd') (hr : ∀ j, j ≠ 1 → j ≠ 2 → j ≠ 7 → j ≠ 8 → j ≠ 9 → j ≠ 10 → B j = A j) (hl : ∀ l ps, l ≤ 4 → ml A l ps → ml B l ps) (h7 : ∀ l, l ≤ 4 → (B 7).getD l 0 = (A 7).getD l 0) (h1 : ∀ j, (120 ≤ j ∧ j < 240) ∨ 480 ≤ j → (B 1).getD j 0 = (A 1).getD j 0) (hJ : ∀ j, j ≠ 0 → J j = I j) : lw_s B J z im st ca sd' ws ta T := by
  obtain ⟨s1, s2, s3, s4, s5, s6, s7, s8, s9, s10⟩ := hs
  refine ⟨mt_rows s1 (hr 3 (by omega) (by omega) (by omega) (by omega) (by omega) (by omega)) (hr 4 (by omega) (by omega) (by omega) (by omega) (by omega) (by omega)) (hr 5 (by omega) (by omega) (by omega) (by omega) (by omega) (by omega)) (hr 6 (by omega) (by omega) (by omega) (by omega) (by omega) (by omega)), fun t ht => ?_, mk_same s3 (hr 13 (by omega) (by omega) (by omega) (by omega) (by omega) (by omega)) (hr 14 (by omega) (by omega) (by omega) (by omega) (by omega) (by omega)) (fun j hj => h1 j (Or.inr hj)), by rw [hJ 5 (by omega)]; exact s4, mk_same s5 (hr 13 (by omega) (by omega) (by omega) (by omega) (by omega) (by omega)) (hr 14 (by omega) (by omega) (by omega) (by omega) (by omega) (by omega)) (fun j hj => h1 j (Or.inr hj)), by rw [hJ 6 (by omega)]; exact s6, hm, mo_of s8 (fun t a b => h1 t (Or.inl ⟨a, b⟩)) (hJ 1 (by omega)), mta_of s9 (fun j _ _ => hJ j (by omega)), mI_of s10 (fun j _ _ => hJ j (by omega))⟩
  obtain ⟨g1, g2, c, g3, g4⟩ := s2 t ht
  exact ⟨by rw [hr 11 (by omega) (by omega) (by omega) (by omega) (by omega) (by omega)]; exact g1, fun q => hl (1 + t) _ (by omega) (g2 q), c, g3, by rw [h7 (1 + t) (by omega)]; exact g4⟩
end LSEED0
section LSEED
variable {xs : List Int32} {h : pm_H} {z : cz_N} {i c : Nat} {Q : Option Value → pm_H → Prop}
theorem sd_V_up {sd : Nat → List Int32 × dp_P} {k : Nat} {bs : List Int32} {ps : dp_P} (h : sd_V sd) (h1 : bt_ok bs) (h2 : pl_V ps bs.length) : sd_V (fr_up sd k (bs, ps)) := by
  intro s hs
  by_cases c : s = k
  · rw [c, fr_up_s]; exact ⟨h1, h2⟩
  · rw [fr_up_n c]; exact h s hs
set_option maxRecDepth 100000 in
theorem lw_c10 (H : lw_h h z c) (hi : i + 5 < xs.length) (hx : xs.length ≤ 4000) (K : ∀ h', lw_h h' z (c + 1) → pm_W xs 8 pt_law 690 [.retAddr 1, .ref 0, .ref 185, .int (nI i)] [] h' Q) : pm_W xs 8 pt_law 463 [.retAddr 1, .ref 0, .ref 185, .int (nI i)] [] h Q := by
  obtain ⟨im, st, ca, sd, ws, ta, f, S, T, A, I, hD, hM, hs, hv, n1, n2⟩ := id H
  obtain ⟨b1, b2, b3, b4, b5⟩ := lw_b hD
  obtain ⟨s1, s2, s3, s4, s5, s6, s7, s8, s9, s10⟩ := id hs
  obtain ⟨a1, e1⟩ : ∃ a, xs.getD (i + 1) 0 = a := ⟨_, rfl⟩
  have ew := em_ws_out hv.2.1 hv.2.2.1 b5
  have hl := lw_out hv.2.1
  have hok := em_out_ok hv.2.1
  have hPV := (cz_cut_V hv.1 (bs := em_out T) (em_out T).length (Nat.le_refl _)).1
  change pl_V (dp_cut z (em_out T)) _ at hPV
  (iterate 5 (first | refine pm_W.ts rfl rfl ?_ | refine pm_W.tl rfl rfl ?_))
  rw [show nI i + Int32.ofInt 1 = nI (i + 1) from nI_add i 1]
  refine pm_W.sald rfl (pm_ix_ok (j := i + 1) (by omega) (by omega)) ?_
  rw [e1]
  have cD := ct_D_seed (xs := xs) (x := a1) (Q := fun v h1 => pm_W xs 8 pt_law 472 [.retAddr 1, .ref 0, .ref 185, .int (nI i)] (v.toList ++ []) h1 Q) hD hv.1 (lw_by hv.2.1 hv.2.2.1) (by rw [ew]; exact hl)
  rw [ew] at cD
  refine pm_W.callV (d' := 6) (as := [.int a1]) rfl rfl rfl rfl (fr_ble rfl) hD.1 (fr_ble rfl) (cD (fun k k2 kx h1 hD1 g1 => ?_) (fun hno => ?_))
  · have hM1 := hM.ag g1 (Or.inr (by omega))
    (iterate 5 (first | refine pm_W.ts rfl rfl ?_ | refine pm_W.tl rfl rfl ?_))
    rw [show nI i + Int32.ofInt 1 = nI (i + 1) from nI_add i 1]
    refine pm_W.sald rfl (pm_ix_ok (j := i + 1) (by omega) (by omega)) ?_
    rw [e1]
    refine pm_W.callV (d' := 4) (as := [.int a1]) rfl rfl rfl rfl (fr_ble rfl) hM1.1 (fr_ble rfl) (ct_M_seed hM1 s1 hv.2.1 s10 hv.1 s7 (fun k' k2' kx' g B y hM2 m1 m2 m3 m4 m5 g2 => ?_) (fun hno => absurd kx (hno k k2)))
    have ek : k' = k := nI_u (by omega) (by omega) kx' kx
    subst ek
    exact pm_W.icmp rfl (fun _ => K g ⟨im, st, ca, _, ws, ta, f, S, T, B, _, hD1.uout g2 (Or.inr (by omega)), hM2, lw_seeded hs m1 m2 m3 m4 m5 (fun j hj => fr_up_n hj), ⟨hv.1, hv.2.1, hv.2.2.1, hv.2.2.2.1, hv.2.2.2.2.1, hv.2.2.2.2.2.1, sd_V_up hv.2.2.2.2.2.2.1 hok hPV, hv.2.2.2.2.2.2.2⟩, by rw [g2.2.1, g1.2.1]; omega, by rw [g2.1, g1.1]; omega⟩) (fun q => absurd rfl q)
  · (iterate 5 (first | refine pm_W.ts rfl rfl ?_ | refine pm_W.tl rfl rfl ?_))
    rw [show nI i + Int32.ofInt 1 = nI (i + 1) from nI_add i 1]
    refine pm_W.sald rfl (pm_ix_ok (j := i + 1) (by omega) (by omega)) ?_
    rw [e1]
    refine pm_W.callV (d' := 4) (as := [.int a1]) rfl rfl rfl rfl (fr_ble rfl) hM.1 (fr_ble rfl) (ct_M_seed hM s1 hv.2.1 s10 hv.1 s7 (fun k' k2' kx' g B y hM2 m1 m2 m3 m4 m5 g2 => absurd kx' (hno k' k2')) (fun _ => ?_))
    exact pm_W.icmp rfl (fun _ => K h (lw_up H)) (fun q => absurd rfl q)
set_option maxRecDepth 100000 in
theorem lw_c11 (H : lw_h h z c) (hi : i + 5 < xs.length) (hx : xs.length ≤ 4000) (K : ∀ h', lw_h h' z (c + 1) → pm_W xs 8 pt_law 690 [.retAddr 1, .ref 0, .ref 185, .int (nI i)] [] h' Q) : pm_W xs 8 pt_law 486 [.retAddr 1, .ref 0, .ref 185, .int (nI i)] [] h Q := by
  obtain ⟨im, st, ca, sd, ws, ta, f, S, T, A, I, hD, hM, hs, hv, n1, n2⟩ := id H
  obtain ⟨s1, s2, s3, s4, s5, s6, s7, s8, s9, s10⟩ := id hs
  obtain ⟨a1, e1⟩ : ∃ a, xs.getD (i + 1) 0 = a := ⟨_, rfl⟩
  obtain ⟨a2, e2⟩ : ∃ a, xs.getD (i + 2) 0 = a := ⟨_, rfl⟩
  obtain ⟨a3, e3⟩ : ∃ a, xs.getD (i + 3) 0 = a := ⟨_, rfl⟩
  (iterate 5 (first | refine pm_W.ts rfl rfl ?_ | refine pm_W.tl rfl rfl ?_))
  rw [show nI i + Int32.ofInt 1 = nI (i + 1) from nI_add i 1]
  refine pm_W.sald rfl (pm_ix_ok (j := i + 1) (by omega) (by omega)) ?_
  rw [e1]
  (iterate 4 (first | refine pm_W.ts rfl rfl ?_ | refine pm_W.tl rfl rfl ?_))
  rw [show nI i + Int32.ofInt 2 = nI (i + 2) from nI_add i 2]
  refine pm_W.sald rfl (pm_ix_ok (j := i + 2) (by omega) (by omega)) ?_
  rw [e2]
  (iterate 4 (first | refine pm_W.ts rfl rfl ?_ | refine pm_W.tl rfl rfl ?_))
  rw [show nI i + Int32.ofInt 3 = nI (i + 3) from nI_add i 3]
  refine pm_W.sald rfl (pm_ix_ok (j := i + 3) (by omega) (by omega)) ?_
  rw [e3]
  refine pm_W.callV (d' := 2) (as := [.int a1, .int a2, .int a3]) rfl rfl rfl rfl (fr_ble rfl) hD.1 (fr_ble rfl) (ct_D_alter hD (fun k t j k2 kx tl tx j2 jx h1 hD1 g1 => ?_) (fun hno => ?_))
  · have hM1 := hM.ag g1 (Or.inr (by omega))
    (iterate 5 (first | refine pm_W.ts rfl rfl ?_ | refine pm_W.tl rfl rfl ?_))
    rw [show nI i + Int32.ofInt 1 = nI (i + 1) from nI_add i 1]
    refine pm_W.sald rfl (pm_ix_ok (j := i + 1) (by omega) (by omega)) ?_
    rw [e1]
    (iterate 4 (first | refine pm_W.ts rfl rfl ?_ | refine pm_W.tl rfl rfl ?_))
    rw [show nI i + Int32.ofInt 2 = nI (i + 2) from nI_add i 2]
    refine pm_W.sald rfl (pm_ix_ok (j := i + 2) (by omega) (by omega)) ?_
    rw [e2]
    (iterate 4 (first | refine pm_W.ts rfl rfl ?_ | refine pm_W.tl rfl rfl ?_))
    rw [show nI i + Int32.ofInt 3 = nI (i + 3) from nI_add i 3]
    refine pm_W.sald rfl (pm_ix_ok (j := i + 3) (by omega) (by omega)) ?_
    rw [e3]
    refine pm_W.callV (d' := 0) (as := [.int a1, .int a2, .int a3]) rfl rfl rfl rfl (fr_ble rfl) hM1.1 (fr_ble rfl) (ct_M_alter hM1 s7 (fun k' t' j' k2' kx' tl' tx' j2' jx' g B hM2 m1 m2 m3 g2 => ?_) (fun hno => absurd jx (hno k t j k2 kx tl tx j2)))
    have ek : k' = k := nI_u (by omega) (by omega) kx' kx
    subst ek
    have l117 := (s7 k' k2).2.1
    have et : t' = t := nI_u (by omega) (by omega) tx' tx
    subst et
    have ej : j' = j := nI_u (by omega) (by omega) jx' jx
    subst ej
    obtain ⟨v1, v2⟩ := hv.2.2.2.2.2.2.1 k' k2
    refine pm_W.icmp rfl (fun _ => K g ⟨im, st, ca, _, ws, ta, f, S, T, B, I, hD1.uout g2 (Or.inr (by omega)), hM2, lw_seeded hs m1 (fun j n1 _ _ _ _ _ => m2 j n1) (fun l ps _ q => ?_) (fun l _ => by rw [m2 7 (by omega)]) (fun j hj => m3 j (by omega)) (fun _ _ => rfl), ⟨hv.1, hv.2.1, hv.2.2.1, hv.2.2.2.1, hv.2.2.2.2.1, hv.2.2.2.2.2.1, sd_V_up hv.2.2.2.2.2.2.1 (bt_ok_set v1 j2) (by rw [List.length_set]; exact v2), hv.2.2.2.2.2.2.2⟩, by rw [g2.2.1, g1.2.1]; omega, by rw [g2.1, g1.1]; omega⟩) (fun q => absurd rfl q)
    unfold ml mlp at q ⊢
    rw [m2 7 (by omega), m2 8 (by omega), m2 9 (by omega), m2 10 (by omega)]
    exact q
  · (iterate 5 (first | refine pm_W.ts rfl rfl ?_ | refine pm_W.tl rfl rfl ?_))
    rw [show nI i + Int32.ofInt 1 = nI (i + 1) from nI_add i 1]
    refine pm_W.sald rfl (pm_ix_ok (j := i + 1) (by omega) (by omega)) ?_
    rw [e1]
    (iterate 4 (first | refine pm_W.ts rfl rfl ?_ | refine pm_W.tl rfl rfl ?_))
    rw [show nI i + Int32.ofInt 2 = nI (i + 2) from nI_add i 2]
    refine pm_W.sald rfl (pm_ix_ok (j := i + 2) (by omega) (by omega)) ?_
    rw [e2]
    (iterate 4 (first | refine pm_W.ts rfl rfl ?_ | refine pm_W.tl rfl rfl ?_))
    rw [show nI i + Int32.ofInt 3 = nI (i + 3) from nI_add i 3]
    refine pm_W.sald rfl (pm_ix_ok (j := i + 3) (by omega) (by omega)) ?_
    rw [e3]
    refine pm_W.callV (d' := 0) (as := [.int a1, .int a2, .int a3]) rfl rfl rfl rfl (fr_ble rfl) hM.1 (fr_ble rfl) (ct_M_alter hM s7 (fun k' t' j' k2' kx' tl' tx' j2' jx' g B hM2 m1 m2 m3 g2 => absurd jx' (hno k' t' j' k2' kx' tl' tx' j2')) (fun _ => ?_))
    exact pm_W.icmp rfl (fun _ => K h (lw_up H)) (fun q => absurd rfl q)
set_option maxRecDepth 100000 in
theorem lw_c12 (H : lw_h h z c) (hi : i + 5 < xs.length) (hx : xs.length ≤ 4000) (K : ∀ h', lw_h h' z (c + 1) → pm_W xs 8 pt_law 690 [.retAddr 1, .ref 0, .ref 185, .int (nI i)] [] h' Q) : pm_W xs 8 pt_law 529 [.retAddr 1, .ref 0, .ref 185, .int (nI i)] [] h Q := by
  obtain ⟨im, st, ca, sd, ws, ta, f, S, T, A, I, hD, hM, hs, hv, n1, n2⟩ := id H
  obtain ⟨s1, s2, s3, s4, s5, s6, s7, s8, s9, s10⟩ := id hs
  obtain ⟨a1, e1⟩ : ∃ a, xs.getD (i + 1) 0 = a := ⟨_, rfl⟩
  (iterate 5 (first | refine pm_W.ts rfl rfl ?_ | refine pm_W.tl rfl rfl ?_))
  rw [show nI i + Int32.ofInt 1 = nI (i + 1) from nI_add i 1]
  refine pm_W.sald rfl (pm_ix_ok (j := i + 1) (by omega) (by omega)) ?_
  rw [e1]
  refine pm_W.callV (d' := 6) (as := [.int a1]) rfl rfl rfl rfl (fr_ble rfl) hD.1 (fr_ble rfl) (ct_D_scan hD hv.1 (fun k k2 kx h1 hD1 g1 => ?_) (fun hno => ?_))
  · have hM1 := hM.ag g1 (Or.inr (by omega))
    (iterate 5 (first | refine pm_W.ts rfl rfl ?_ | refine pm_W.tl rfl rfl ?_))
    rw [show nI i + Int32.ofInt 1 = nI (i + 1) from nI_add i 1]
    refine pm_W.sald rfl (pm_ix_ok (j := i + 1) (by omega) (by omega)) ?_
    rw [e1]
    refine pm_W.callV (d' := 3) (as := [.int a1]) rfl rfl rfl rfl (fr_ble rfl) hM1.1 (fr_ble rfl) (ct_M_scan hM1 s7 s10 hv.1 (fun k' k2' kx' g B hM2 m1 m2 m3 g2 => ?_) (fun hno => absurd kx (hno k k2)))
    have ek : k' = k := nI_u (by omega) (by omega) kx' kx
    subst ek
    obtain ⟨v1, v2⟩ := hv.2.2.2.2.2.2.1 k' k2
    exact pm_W.icmp rfl (fun _ => K g ⟨im, st, ca, _, ws, ta, f, S, T, B, I, hD1.uout g2 (Or.inr (by omega)), hM2, lw_seeded hs m1 (fun j _ _ n7 n8 n9 n10 => mc_row m2 (by omega)) (fun l ps hl q => mc_ml m2 m3 (by omega) q) (fun l hl => m3 l (by omega)) (fun j _ => by rw [mc_row m2 (by omega)]) (fun _ _ => rfl), ⟨hv.1, hv.2.1, hv.2.2.1, hv.2.2.2.1, hv.2.2.2.2.1, hv.2.2.2.2.2.1, sd_V_up hv.2.2.2.2.2.2.1 v1 (cz_cut_V hv.1 _ (Nat.le_refl _)).1, hv.2.2.2.2.2.2.2⟩, by rw [g2.2.1, g1.2.1]; omega, by rw [g2.1, g1.1]; omega⟩) (fun q => absurd rfl q)
  · (iterate 5 (first | refine pm_W.ts rfl rfl ?_ | refine pm_W.tl rfl rfl ?_))
    rw [show nI i + Int32.ofInt 1 = nI (i + 1) from nI_add i 1]
    refine pm_W.sald rfl (pm_ix_ok (j := i + 1) (by omega) (by omega)) ?_
    rw [e1]
    refine pm_W.callV (d' := 3) (as := [.int a1]) rfl rfl rfl rfl (fr_ble rfl) hM.1 (fr_ble rfl) (ct_M_scan hM s7 s10 hv.1 (fun k' k2' kx' g B hM2 m1 m2 m3 g2 => absurd kx' (hno k' k2')) (fun _ => ?_))
    exact pm_W.icmp rfl (fun _ => K h (lw_up H)) (fun q => absurd rfl q)
end LSEED
