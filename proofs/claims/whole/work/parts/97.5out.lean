section LOUT0
variable {h : pm_H} {A B : Nat → List Int32} {I J : Nat → Int32} {z : cz_N} {im : Nat → dp_P} {st ca : dp_K} {sd : Nat → List Int32 × dp_P} {ws ta : List Nat} {f : Bool} {S : tr_S} {T : te_T}
theorem lw_extr {ca' : dp_K} {ws' ta' : List Nat} (hs : lw_s A I z im st ca sd ws ta T) (l5 : st.length ≤ 40) (h1 : mk B (40 * 1) ca') (h2 : J 6 = nI ca'.length) (h3 : mo B J ws') (h4 : mta J ta') (hJ : ∀ j, j < 6 → j ≠ 1 → J j = I j) (hm : me_ag A B) : lw_s B J z im st ca' sd ws' ta' T := by
  obtain ⟨s1, s2, s3, s4, s5, s6, s7, s8, s9, s10⟩ := hs
  have hr := hm.1
  exact ⟨mt_rows s1 (hr 3 (by omega) (by omega) (by omega)) (hr 4 (by omega) (by omega) (by omega)) (hr 5 (by omega) (by omega) (by omega)) (hr 6 (by omega) (by omega) (by omega)), mi_rows s2 (hr 7 (by omega) (by omega) (by omega)) (hr 8 (by omega) (by omega) (by omega)) (hr 9 (by omega) (by omega) (by omega)) (hr 10 (by omega) (by omega) (by omega)) (hr 11 (by omega) (by omega) (by omega)), me_mk s3 l5 hm, by rw [hJ 5 (by omega) (by omega)]; exact s4, h1, h2, me_mse s7 hm, h3, h4, mI_of s10 (fun j _ _ => hJ j (by omega) (by omega))⟩
theorem lw_spoilt {vs : List Nat} {y : Int32} (hs : lw_s A I z im st ca sd ws ta T) (h1 : mo B (fr_up I 1 y) vs) (hr : ∀ i, i ≠ 1 → B i = A i) (hq : ∀ j, j < 120 ∨ 240 ≤ j → (B 1).getD j 0 = (A 1).getD j 0) : lw_s B (fr_up I 1 y) z im st ca sd vs ta T := by
  obtain ⟨s1, s2, s3, s4, s5, s6, s7, s8, s9, s10⟩ := hs
  exact ⟨mt_rows s1 (hr 3 (by omega)) (hr 4 (by omega)) (hr 5 (by omega)) (hr 6 (by omega)), mi_rows s2 (hr 7 (by omega)) (hr 8 (by omega)) (hr 9 (by omega)) (hr 10 (by omega)) (hr 11 (by omega)), mk_same s3 (hr 13 (by omega)) (hr 14 (by omega)) (fun j hj => hq j (by omega)), by rw [fr_up_n (by omega)]; exact s4, mk_same s5 (hr 13 (by omega)) (hr 14 (by omega)) (fun j hj => hq j (by omega)), by rw [fr_up_n (by omega)]; exact s6, mse_rows s7 (fun t ht _ => hq t (by omega)) (hr 2 (by omega)) (hr 7 (by omega)) (hr 8 (by omega)) (hr 9 (by omega)) (hr 10 (by omega)), h1, mta_of s9 (fun j _ _ => fr_up_n (by omega)), mI_of s10 (fun j _ _ => fr_up_n (by omega))⟩
theorem lw_unpk {T' : te_T} {y : Int32} (hs : lw_s A I z im st ca sd ws ta T) (h1 : mt B 0 T') (hr : ∀ j, j ≠ 1 → j ≠ 3 → j ≠ 4 → j ≠ 5 → j ≠ 6 → B j = A j) (hq : ∀ t, 120 ≤ t → (B 1).getD t 0 = (A 1).getD t 0) : lw_s B (fr_up I 0 y) z im st ca sd ws ta T' := by
  obtain ⟨s1, s2, s3, s4, s5, s6, s7, s8, s9, s10⟩ := hs
  have r : ∀ j, 6 < j → B j = A j := fun j hj => hr j (by omega) (by omega) (by omega) (by omega) (by omega)
  exact ⟨h1, mi_rows s2 (r 7 (by omega)) (r 8 (by omega)) (r 9 (by omega)) (r 10 (by omega)) (r 11 (by omega)), mk_same s3 (r 13 (by omega)) (r 14 (by omega)) (fun j hj => hq j (by omega)), by rw [fr_up_n (by omega)]; exact s4, mk_same s5 (r 13 (by omega)) (r 14 (by omega)) (fun j hj => hq j (by omega)), by rw [fr_up_n (by omega)]; exact s6, mse_rows s7 (fun t ht _ => hq t (by omega)) (hr 2 (by omega) (by omega) (by omega) (by omega) (by omega)) (r 7 (by omega)) (r 8 (by omega)) (r 9 (by omega)) (r 10 (by omega)), mo_of s8 (fun t ht _ => hq t ht) (fr_up_n (by omega)), mta_of s9 (fun j _ _ => fr_up_n (by omega)), mI_0 s10⟩
theorem sp_u {x v : Int32} {v1 v2 : List Nat} (hl : ws.length ≤ 120) (h1 : sp_R ws x v v1) (h2 : sp_R ws x v v2) : v1 = v2 := by
  rcases h1 with ⟨a, i, i1, i2, i3⟩ | ⟨j, j1, j2, i, i2, q⟩
  · rcases h2 with ⟨b, k, k1, k2, k3⟩ | ⟨j, j1, j2, -⟩
    · have := nI_u (by omega) (by omega) i2 k2
      rw [i3, k3, this]
    · exact absurd (j2.symm.trans a) (fr_not1 (by omega))
  · rcases h2 with ⟨b, -⟩ | ⟨j', l1, l2, k, k2, r⟩
    · exact absurd (j2.symm.trans b) (fr_not1 (by omega))
    · have hi : i ≤ ws.length := by rcases q with q | q <;> omega
      have hk : k ≤ ws.length := by rcases r with r | r <;> omega
      have ei := nI_u (by omega) (by omega) i2 k2
      have ej := nI_u (by omega) (by omega) j2 l2
      subst ei
      subst ej
      rcases q with ⟨q1, q2, q3⟩ | ⟨q1, q2⟩
      · rcases r with ⟨r1, r2, r3⟩ | ⟨r1, r2⟩
        · rw [q3, r3]
        · omega
      · rcases r with ⟨r1, r2, r3⟩ | ⟨r1, r2⟩
        · omega
        · rw [q2, r2]
theorem sp_by {x v : Int32} {vs : List Nat} (hb : rd_by ws) (h : sp_R ws x v vs) : rd_by vs := by
  rcases h with ⟨a, i, i1, i2, i3⟩ | ⟨j, j1, j2, i, i2, q⟩
  · rw [i3]
    exact fun y hy => hb y (List.mem_of_mem_take hy)
  · rcases q with ⟨q1, q2, q3⟩ | ⟨q1, q2⟩
    · rw [q3]
      intro y hy
      rcases List.mem_append.mp hy with r | r
      · exact hb y r
      · rw [List.mem_singleton.mp r]; exact j1
    · rw [q2]
      intro y hy
      rcases List.mem_or_eq_of_mem_set hy with r | r
      · exact hb y r
      · rw [r]; exact j1
end LOUT0
section LOUT
variable {xs : List Int32} {h : pm_H} {z : cz_N} {i c : Nat} {Q : Option Value → pm_H → Prop}
set_option maxRecDepth 100000 in
theorem lw_c13 (H : lw_h h z c) (hi : i + 5 < xs.length) (hx : xs.length ≤ 4000) (K : ∀ h', lw_h h' z (c + 1) → pm_W xs 8 pt_law 690 [.retAddr 1, .ref 0, .ref 185, .int (nI i)] [] h' Q) : pm_W xs 8 pt_law 552 [.retAddr 1, .ref 0, .ref 185, .int (nI i)] [] h Q := by
  obtain ⟨im, st, ca, sd, ws, ta, f, S, T, A, I, hD, hM, hs, hv, n1, n2⟩ := id H
  obtain ⟨b1, b2, b3, b4, b5⟩ := lw_b hD
  obtain ⟨s1, s2, s3, s4, s5, s6, s7, s8, s9, s10⟩ := id hs
  obtain ⟨a1, e1⟩ : ∃ a, xs.getD (i + 1) 0 = a := ⟨_, rfl⟩
  (iterate 5 (first | refine pm_W.ts rfl rfl ?_ | refine pm_W.tl rfl rfl ?_))
  rw [show nI i + Int32.ofInt 1 = nI (i + 1) from nI_add i 1]
  refine pm_W.sald rfl (pm_ix_ok (j := i + 1) (by omega) (by omega)) ?_
  rw [e1]
  refine pm_W.callV (d' := 6) (as := [.int a1]) rfl rfl rfl rfl (fr_ble rfl) hD.1 (fr_ble rfl) (ct_D_extract hD hv.2.2.2.1 hv.2.2.2.2.1 hv.2.2.2.2.2.1 hv.2.2.2.2.2.2.1 (fun k k4 kx kne h1 hD1 g1 => ?_) (fun hno => ?_))
  · have hM1 := hM.ag g1 (Or.inr (by omega))
    (iterate 5 (first | refine pm_W.ts rfl rfl ?_ | refine pm_W.tl rfl rfl ?_))
    rw [show nI i + Int32.ofInt 1 = nI (i + 1) from nI_add i 1]
    refine pm_W.sald rfl (pm_ix_ok (j := i + 1) (by omega) (by omega)) ?_
    rw [e1]
    refine pm_W.callV (d' := 4) (as := [.int a1]) rfl rfl rfl rfl (fr_ble rfl) hM1.1 (fr_ble rfl) (ct_M_extract hM1 s2 hv.2.2.2.1 s3 s4 b1 s5 s6 b2 s7 hv.2.2.2.2.2.2.1 (fun k' k4' kx' kne' g B J hM2 m1 m2 m3 m4 m5 m6 m7 g2 => ?_) (fun hno => absurd (hno k k4 kx) kne))
    have ek : k' = k := nI_u (by omega) (by omega) kx' kx
    subst ek
    obtain ⟨w1, w2⟩ := ex_go_by (hv.2.2.2.1 k' k4) hv.2.2.2.2.1 hv.2.2.2.2.2.2.1 (im k').length 0 ca [] [0, 0, 0, 0] (by omega) rfl (fun x hx => by cases hx) hv.2.2.2.2.2.1
    exact pm_W.icmp rfl (fun _ => K g ⟨im, st, _, sd, _, _, f, S, T, B, J, hD1.uout g2 (Or.inr (by omega)), hM2, lw_extr hs b1 m1 m2 m4 m5 m6 m7, ⟨hv.1, hv.2.1, hv.2.2.1, hv.2.2.2.1, hv.2.2.2.2.1, w1, hv.2.2.2.2.2.2.1, w2⟩, by rw [g2.2.1, g1.2.1]; omega, by rw [g2.1, g1.1]; omega⟩) (fun q => absurd rfl q)
  · (iterate 5 (first | refine pm_W.ts rfl rfl ?_ | refine pm_W.tl rfl rfl ?_))
    rw [show nI i + Int32.ofInt 1 = nI (i + 1) from nI_add i 1]
    refine pm_W.sald rfl (pm_ix_ok (j := i + 1) (by omega) (by omega)) ?_
    rw [e1]
    refine pm_W.callV (d' := 4) (as := [.int a1]) rfl rfl rfl rfl (fr_ble rfl) hM.1 (fr_ble rfl) (ct_M_extract hM s2 hv.2.2.2.1 s3 s4 b1 s5 s6 b2 s7 hv.2.2.2.2.2.2.1 (fun k' k4' kx' kne' => absurd (hno k' k4' kx') kne') (fun _ => ?_))
    exact pm_W.icmp rfl (fun _ => K h (lw_up H)) (fun q => absurd rfl q)
set_option maxRecDepth 100000 in
theorem lw_c14 (H : lw_h h z c) (hi : i + 5 < xs.length) (hx : xs.length ≤ 4000) (K : ∀ h', lw_h h' z (c + 1) → pm_W xs 8 pt_law 690 [.retAddr 1, .ref 0, .ref 185, .int (nI i)] [] h' Q) : pm_W xs 8 pt_law 575 [.retAddr 1, .ref 0, .ref 185, .int (nI i)] [] h Q := by
  obtain ⟨im, st, ca, sd, ws, ta, f, S, T, A, I, hD, hM, hs, hv, n1, n2⟩ := id H
  obtain ⟨s1, s2, s3, s4, s5, s6, s7, s8, s9, s10⟩ := id hs
  obtain ⟨a1, e1⟩ : ∃ a, xs.getD (i + 1) 0 = a := ⟨_, rfl⟩
  (iterate 5 (first | refine pm_W.ts rfl rfl ?_ | refine pm_W.tl rfl rfl ?_))
  rw [show nI i + Int32.ofInt 1 = nI (i + 1) from nI_add i 1]
  refine pm_W.sald rfl (pm_ix_ok (j := i + 1) (by omega) (by omega)) ?_
  rw [e1]
  refine pm_W.callV (d' := 0) (as := [.int a1]) rfl rfl rfl rfl (fr_ble rfl) hD.1 (fr_ble rfl) (ct_D_counts hD (fun k k4 kx => ?_) (fun hno => ?_))
  · (iterate 5 (first | refine pm_W.ts rfl rfl ?_ | refine pm_W.tl rfl rfl ?_))
    rw [show nI i + Int32.ofInt 1 = nI (i + 1) from nI_add i 1]
    refine pm_W.sald rfl (pm_ix_ok (j := i + 1) (by omega) (by omega)) ?_
    rw [e1]
    refine pm_W.callV (d' := 0) (as := [.int a1]) rfl rfl rfl rfl (fr_ble rfl) hM.1 (fr_ble rfl) (ct_M_counts hM s9 (fun k' k4' kx' => ?_) (fun hno => absurd kx (hno k k4)))
    have ek : k' = k := nI_u (by omega) (by omega) kx' kx
    subst ek
    exact pm_W.icmp rfl (fun _ => K h (lw_up H)) (fun q => absurd rfl q)
  · (iterate 5 (first | refine pm_W.ts rfl rfl ?_ | refine pm_W.tl rfl rfl ?_))
    rw [show nI i + Int32.ofInt 1 = nI (i + 1) from nI_add i 1]
    refine pm_W.sald rfl (pm_ix_ok (j := i + 1) (by omega) (by omega)) ?_
    rw [e1]
    refine pm_W.callV (d' := 0) (as := [.int a1]) rfl rfl rfl rfl (fr_ble rfl) hM.1 (fr_ble rfl) (ct_M_counts hM s9 (fun k' k4' kx' => absurd kx' (hno k' k4')) (fun _ => ?_))
    exact pm_W.icmp rfl (fun _ => K h (lw_up H)) (fun q => absurd rfl q)
set_option maxRecDepth 100000 in
theorem lw_c15 (H : lw_h h z c) (hi : i + 5 < xs.length) (hx : xs.length ≤ 4000) (K : ∀ h', lw_h h' z (c + 1) → pm_W xs 8 pt_law 690 [.retAddr 1, .ref 0, .ref 185, .int (nI i)] [] h' Q) : pm_W xs 8 pt_law 598 [.retAddr 1, .ref 0, .ref 185, .int (nI i)] [] h Q := by
  obtain ⟨im, st, ca, sd, ws, ta, f, S, T, A, I, hD, hM, hs, hv, n1, n2⟩ := id H
  obtain ⟨b1, b2, b3, b4, b5⟩ := lw_b hD
  obtain ⟨s1, s2, s3, s4, s5, s6, s7, s8, s9, s10⟩ := id hs
  obtain ⟨a1, e1⟩ : ∃ a, xs.getD (i + 1) 0 = a := ⟨_, rfl⟩
  (iterate 5 (first | refine pm_W.ts rfl rfl ?_ | refine pm_W.tl rfl rfl ?_))
  rw [show nI i + Int32.ofInt 1 = nI (i + 1) from nI_add i 1]
  refine pm_W.sald rfl (pm_ix_ok (j := i + 1) (by omega) (by omega)) ?_
  rw [e1]
  refine pm_W.callV (d' := 2) (as := [.int a1]) rfl rfl rfl rfl (fr_ble rfl) hD.1 (fr_ble rfl) (ct_D_output hD (fun kl => ?_) (fun k k4 kx => ?_) (fun hl hno => ?_))
  · (iterate 5 (first | refine pm_W.ts rfl rfl ?_ | refine pm_W.tl rfl rfl ?_))
    rw [show nI i + Int32.ofInt 1 = nI (i + 1) from nI_add i 1]
    refine pm_W.sald rfl (pm_ix_ok (j := i + 1) (by omega) (by omega)) ?_
    rw [e1]
    refine pm_W.callV (d' := 0) (as := [.int a1]) rfl rfl rfl rfl (fr_ble rfl) hM.1 (fr_ble rfl) (ct_M_output hM s8 (fun _ => ?_) (fun k' k4' kx' => absurd (kx'.symm.trans kl) (fr_not1 (by omega))) (fun hl _ => absurd kl hl))
    exact pm_W.icmp rfl (fun _ => K h (lw_up H)) (fun q => absurd rfl q)
  · (iterate 5 (first | refine pm_W.ts rfl rfl ?_ | refine pm_W.tl rfl rfl ?_))
    rw [show nI i + Int32.ofInt 1 = nI (i + 1) from nI_add i 1]
    refine pm_W.sald rfl (pm_ix_ok (j := i + 1) (by omega) (by omega)) ?_
    rw [e1]
    refine pm_W.callV (d' := 0) (as := [.int a1]) rfl rfl rfl rfl (fr_ble rfl) hM.1 (fr_ble rfl) (ct_M_output hM s8 (fun kl => absurd (kx.symm.trans kl) (fr_not1 (by omega))) (fun k' k4' kx' => ?_) (fun _ hno => absurd kx (hno k k4)))
    have ek : k' = k := nI_u (by omega) (by omega) kx' kx
    subst ek
    exact pm_W.icmp rfl (fun _ => K h (lw_up H)) (fun q => absurd rfl q)
  · (iterate 5 (first | refine pm_W.ts rfl rfl ?_ | refine pm_W.tl rfl rfl ?_))
    rw [show nI i + Int32.ofInt 1 = nI (i + 1) from nI_add i 1]
    refine pm_W.sald rfl (pm_ix_ok (j := i + 1) (by omega) (by omega)) ?_
    rw [e1]
    refine pm_W.callV (d' := 0) (as := [.int a1]) rfl rfl rfl rfl (fr_ble rfl) hM.1 (fr_ble rfl) (ct_M_output hM s8 (fun kl => absurd kl hl) (fun k' k4' kx' => absurd kx' (hno k' k4')) (fun _ _ => ?_))
    exact pm_W.icmp rfl (fun _ => K h (lw_up H)) (fun q => absurd rfl q)
set_option maxRecDepth 100000 in
theorem lw_c16 (H : lw_h h z c) (hi : i + 5 < xs.length) (hx : xs.length ≤ 4000) (K : ∀ h', lw_h h' z (c + 1) → pm_W xs 8 pt_law 690 [.retAddr 1, .ref 0, .ref 185, .int (nI i)] [] h' Q) : pm_W xs 8 pt_law 621 [.retAddr 1, .ref 0, .ref 185, .int (nI i)] [] h Q := by
  obtain ⟨im, st, ca, sd, ws, ta, f, S, T, A, I, hD, hM, hs, hv, n1, n2⟩ := id H
  obtain ⟨b1, b2, b3, b4, b5⟩ := lw_b hD
  obtain ⟨s1, s2, s3, s4, s5, s6, s7, s8, s9, s10⟩ := id hs
  obtain ⟨a1, e1⟩ : ∃ a, xs.getD (i + 1) 0 = a := ⟨_, rfl⟩
  obtain ⟨a2, e2⟩ : ∃ a, xs.getD (i + 2) 0 = a := ⟨_, rfl⟩
  (iterate 5 (first | refine pm_W.ts rfl rfl ?_ | refine pm_W.tl rfl rfl ?_))
  rw [show nI i + Int32.ofInt 1 = nI (i + 1) from nI_add i 1]
  refine pm_W.sald rfl (pm_ix_ok (j := i + 1) (by omega) (by omega)) ?_
  rw [e1]
  (iterate 4 (first | refine pm_W.ts rfl rfl ?_ | refine pm_W.tl rfl rfl ?_))
  rw [show nI i + Int32.ofInt 2 = nI (i + 2) from nI_add i 2]
  refine pm_W.sald rfl (pm_ix_ok (j := i + 2) (by omega) (by omega)) ?_
  rw [e2]
  refine pm_W.callV (d' := 2) (as := [.int a1, .int a2]) rfl rfl rfl rfl (fr_ble rfl) hD.1 (fr_ble rfl) (ct_D_spoil hD (fun vs hsp h1 hD1 g1 => ?_) (fun hno => ?_))
  · have hM1 := hM.ag g1 (Or.inr (by omega))
    (iterate 5 (first | refine pm_W.ts rfl rfl ?_ | refine pm_W.tl rfl rfl ?_))
    rw [show nI i + Int32.ofInt 1 = nI (i + 1) from nI_add i 1]
    refine pm_W.sald rfl (pm_ix_ok (j := i + 1) (by omega) (by omega)) ?_
    rw [e1]
    (iterate 4 (first | refine pm_W.ts rfl rfl ?_ | refine pm_W.tl rfl rfl ?_))
    rw [show nI i + Int32.ofInt 2 = nI (i + 2) from nI_add i 2]
    refine pm_W.sald rfl (pm_ix_ok (j := i + 2) (by omega) (by omega)) ?_
    rw [e2]
    refine pm_W.callV (d' := 0) (as := [.int a1, .int a2]) rfl rfl rfl rfl (fr_ble rfl) hM1.1 (fr_ble rfl) (ct_M_spoil hM1 s8 (fun vs' hsp' g B y hM2 m1 m2 m3 g2 => ?_) (fun hno => absurd hsp (hno vs)))
    have ev := sp_u b3 hsp' hsp
    subst ev
    exact pm_W.icmp rfl (fun _ => K g ⟨im, st, ca, sd, _, ta, f, S, T, B, _, hD1.uout g2 (Or.inr (by omega)), hM2, lw_spoilt hs m1 m2 m3, ⟨hv.1, hv.2.1, hv.2.2.1, hv.2.2.2.1, hv.2.2.2.2.1, hv.2.2.2.2.2.1, hv.2.2.2.2.2.2.1, sp_by hv.2.2.2.2.2.2.2 hsp⟩, by rw [g2.2.1, g1.2.1]; omega, by rw [g2.1, g1.1]; omega⟩) (fun q => absurd rfl q)
  · (iterate 5 (first | refine pm_W.ts rfl rfl ?_ | refine pm_W.tl rfl rfl ?_))
    rw [show nI i + Int32.ofInt 1 = nI (i + 1) from nI_add i 1]
    refine pm_W.sald rfl (pm_ix_ok (j := i + 1) (by omega) (by omega)) ?_
    rw [e1]
    (iterate 4 (first | refine pm_W.ts rfl rfl ?_ | refine pm_W.tl rfl rfl ?_))
    rw [show nI i + Int32.ofInt 2 = nI (i + 2) from nI_add i 2]
    refine pm_W.sald rfl (pm_ix_ok (j := i + 2) (by omega) (by omega)) ?_
    rw [e2]
    refine pm_W.callV (d' := 0) (as := [.int a1, .int a2]) rfl rfl rfl rfl (fr_ble rfl) hM.1 (fr_ble rfl) (ct_M_spoil hM s8 (fun vs' hsp' g B y hM2 m1 m2 m3 g2 => absurd hsp' (hno vs')) (fun _ => ?_))
    exact pm_W.icmp rfl (fun _ => K h (lw_up H)) (fun q => absurd rfl q)
set_option maxRecDepth 100000 in
theorem lw_c17 (H : lw_h h z c) (hi : i + 5 < xs.length) (hx : xs.length ≤ 4000) (K : ∀ h', lw_h h' z (c + 1) → pm_W xs 8 pt_law 690 [.retAddr 1, .ref 0, .ref 185, .int (nI i)] [] h' Q) : pm_W xs 8 pt_law 654 [.retAddr 1, .ref 0, .ref 185, .int (nI i)] [] h Q := by
  obtain ⟨im, st, ca, sd, ws, ta, f, S, T, A, I, hD, hM, hs, hv, n1, n2⟩ := id H
  obtain ⟨b1, b2, b3, b4, b5⟩ := lw_b hD
  obtain ⟨s1, s2, s3, s4, s5, s6, s7, s8, s9, s10⟩ := id hs
  have hby := hv.2.2.2.2.2.2.2
  have hlen : 200 ≤ h.1.length := by
    have := (hM.2 14 (by omega) (by omega)).1
    have := (List.getElem?_eq_some_iff.mp this).1
    omega
  (iterate 1 (first | refine pm_W.ts rfl rfl ?_ | refine pm_W.tl rfl rfl ?_))
  refine pm_W.callV (d' := 6) (as := []) rfl rfl rfl rfl (fr_ble rfl) hD.1 (fr_ble rfl) (ct_D_unpackT hD hv.2.2.1.1 hby b3 (fun v h1 hR hD1 g1 => ?_) (fun T1 S1 n h1 hR hV1 htt1 hD1 g1 => ?_))
  · have hM1 : mr_R h1 185 A I := hM.keep (fun j _ hj => g1.2.2 j (by omega) (by omega))
    (iterate 1 (first | refine pm_W.ts rfl rfl ?_ | refine pm_W.tl rfl rfl ?_))
    refine pm_W.callV (d' := 4) (as := []) rfl rfl rfl rfl (fr_ble rfl) hM1.1 (fr_ble rfl) (ct_M_unpack hM1 s1 hv.2.1 s8 hby (fun v' hR' g B y hM2 m1 m2 m3 g2 => ?_) (fun n' T1' hR' => absurd (hR.symm.trans hR') (fun q => by cases q)))
    have ev : v' = v := by
      have := hR'.symm.trans hR
      exact congrArg Prod.fst this
    subst ev
    exact pm_W.icmp rfl (fun _ => K g ⟨im, st, ca, sd, ws, ta, f, S, T, B, _, hD1.uout g2 (Or.inr (by omega)), hM2, lw_unpk hs m1 m2 m3, hv, by rw [g2.2.1, g1.1]; omega, by rw [g2.1, g1.2.1]; omega⟩) (fun q => absurd rfl q)
  · have hM1 : mr_R h1 185 A I := hM.keep (fun j _ hj => g1.2.2 j (by omega) (by omega))
    (iterate 1 (first | refine pm_W.ts rfl rfl ?_ | refine pm_W.tl rfl rfl ?_))
    refine pm_W.callV (d' := 4) (as := []) rfl rfl rfl rfl (fr_ble rfl) hM1.1 (fr_ble rfl) (ct_M_unpack hM1 s1 hv.2.1 s8 hby (fun v' hR' => absurd (hR.symm.trans hR') (fun q => by cases q)) (fun n' T1' hR' g B y hM2 m1 m2 m3 g2 => ?_))
    have eq := hR'.symm.trans hR
    have en : nI n' = nI n := congrArg Prod.fst eq
    have eT : T1' = T1 := by
      have := congrArg Prod.snd eq
      exact Option.some.inj this
    subst eT
    rw [en]
    exact pm_W.icmp rfl (fun _ => K g ⟨im, st, ca, sd, ws, ta, !f, S1, T1', B, _, hD1.uout g2 (Or.inr (by omega)), hM2, lw_unpk hs m1 m2 m3, ⟨hv.1, hV1, htt1, hv.2.2.2⟩, by rw [g2.2.1, g1.1]; omega, by rw [g2.1, g1.2.1]; omega⟩) (fun q => absurd rfl q)
set_option maxRecDepth 100000 in
theorem lw_c18 (H : lw_h h z c) (hi : i + 5 < xs.length) (hx : xs.length ≤ 4000) (K : ∀ h', lw_h h' z (c + 1) → pm_W xs 8 pt_law 690 [.retAddr 1, .ref 0, .ref 185, .int (nI i)] [] h' Q) : pm_W xs 8 pt_law 667 [.retAddr 1, .ref 0, .ref 185, .int (nI i)] [] h Q := by
  obtain ⟨im, st, ca, sd, ws, ta, f, S, T, A, I, hD, hM, hs, hv, n1, n2⟩ := id H
  obtain ⟨b1, b2, b3, b4, b5⟩ := lw_b hD
  obtain ⟨s1, s2, s3, s4, s5, s6, s7, s8, s9, s10⟩ := id hs
  obtain ⟨a1, e1⟩ : ∃ a, xs.getD (i + 1) 0 = a := ⟨_, rfl⟩
  have ew := em_ws_out hv.2.1 hv.2.2.1 b5
  have hl := lw_out hv.2.1
  (iterate 5 (first | refine pm_W.ts rfl rfl ?_ | refine pm_W.tl rfl rfl ?_))
  rw [show nI i + Int32.ofInt 1 = nI (i + 1) from nI_add i 1]
  refine pm_W.sald rfl (pm_ix_ok (j := i + 1) (by omega) (by omega)) ?_
  rw [e1]
  refine pm_W.callV (d' := 5) (as := [.int a1]) rfl rfl rfl rfl (fr_ble rfl) hD.1 (fr_ble rfl) (ct_D_size hD (lw_by hv.2.1 hv.2.2.1) (by rw [ew]; exact hl) (fun j j8 jx h1 hD1 g1 => ?_) (fun hno => ?_))
  · have hM1 := hM.ag g1 (Or.inr (by omega))
    (iterate 5 (first | refine pm_W.ts rfl rfl ?_ | refine pm_W.tl rfl rfl ?_))
    rw [show nI i + Int32.ofInt 1 = nI (i + 1) from nI_add i 1]
    refine pm_W.sald rfl (pm_ix_ok (j := i + 1) (by omega) (by omega)) ?_
    rw [e1]
    refine pm_W.callV (d' := 4) (as := [.int a1]) rfl rfl rfl rfl (fr_ble rfl) hM1.1 (fr_ble rfl) (ct_M_size hM1 s1 hv.2.1 s2 s3 s4 b1 s5 s6 b2 (fun j' j8' jx' g B y hM2 m1 m2 g2 => ?_) (fun hno => absurd jx (hno j j8)))
    have ej : j' = j := nI_u (by omega) (by omega) jx' jx
    subst ej
    rw [mz_eq (z := z) hv.2.1 hv.2.2.1 b5 j']
    exact pm_W.icmp rfl (fun _ => K g ⟨im, st, ca, sd, ws, ta, f, S, T, B, _, hD1.uout g2 (Or.inr (by omega)), hM2, lw_str hs m1 m2, hv, by rw [g2.2.1, g1.2.1]; omega, by rw [g2.1, g1.1]; omega⟩) (fun q => absurd rfl q)
  · (iterate 5 (first | refine pm_W.ts rfl rfl ?_ | refine pm_W.tl rfl rfl ?_))
    rw [show nI i + Int32.ofInt 1 = nI (i + 1) from nI_add i 1]
    refine pm_W.sald rfl (pm_ix_ok (j := i + 1) (by omega) (by omega)) ?_
    rw [e1]
    refine pm_W.callV (d' := 4) (as := [.int a1]) rfl rfl rfl rfl (fr_ble rfl) hM.1 (fr_ble rfl) (ct_M_size hM s1 hv.2.1 s2 s3 s4 b1 s5 s6 b2 (fun j' j8' jx' g B y hM2 m1 m2 g2 => absurd jx' (hno j' j8')) (fun _ => ?_))
    exact pm_W.icmp rfl (fun _ => K h (lw_up H)) (fun q => absurd rfl q)
end LOUT
