theorem nI_u {x : Int32} {a b : Nat} (ha : a < 2 ^ 31) (hb : b < 2 ^ 31) (h1 : x = nI a) (h2 : x = nI b) : a = b := by
  have := h1.symm.trans h2
  rw [nI_eq ha hb] at this
  exact this
theorem lw_up {h : pm_H} {z : cz_N} {c : Nat} (H : lw_h h z c) : lw_h h z (c + 1) := by
  obtain ⟨im, st, ca, sd, ws, ta, f, S, T, A, I, hD, hM, hs, hv, n1, n2⟩ := H
  exact ⟨im, st, ca, sd, ws, ta, f, S, T, A, I, hD, hM, hs, hv, by omega, by omega⟩
section LTREE
variable {xs : List Int32} {h : pm_H} {z : cz_N} {i c : Nat} {Q : Option Value → pm_H → Prop}
theorem fl_u {T : te_T} {p e e' : Nat} (hV : tV T) (h1 : fl_ok T p e) (h2 : fl_ok T p e') : e = e' := hV.2.1 e e' h1.2.2.1 h2.2.2.1 (by rw [h1.2.2.2.1]; exact h1.2.1) (by rw [h1.2.2.2.1, h2.2.2.2.1])
theorem lw_c0 (H : lw_h h z c) (hi : i + 5 < xs.length) (hx : xs.length ≤ 4000) (K : ∀ h', lw_h h' z (c + 1) → pm_W xs 8 pt_law 690 [.retAddr 1, .ref 0, .ref 185, .int (nI i)] [] h' Q) : pm_W xs 8 pt_law 152 [.retAddr 1, .ref 0, .ref 185, .int (nI i)] [] h Q := by
  obtain ⟨im, st, ca, sd, ws, ta, f, S, T, A, I, hD, hM, hs, hv, n1, n2⟩ := id H
  obtain ⟨p, hp, e1⟩ := fr_any (xs.getD (i + 1) 0)
  obtain ⟨a2, e2⟩ : ∃ a, xs.getD (i + 2) 0 = a := ⟨_, rfl⟩
  (iterate 5 (first | refine pm_W.ts rfl rfl ?_ | refine pm_W.tl rfl rfl ?_))
  rw [show nI i + Int32.ofInt 1 = nI (i + 1) from nI_add i 1]
  refine pm_W.sald rfl (pm_ix_ok (j := i + 1) (by omega) (by omega)) ?_
  rw [e1]
  (iterate 4 (first | refine pm_W.ts rfl rfl ?_ | refine pm_W.tl rfl rfl ?_))
  rw [show nI i + Int32.ofInt 2 = nI (i + 2) from nI_add i 2]
  refine pm_W.sald rfl (pm_ix_ok (j := i + 2) (by omega) (by omega)) ?_
  rw [e2]
  refine pm_W.callV (d' := 4) (as := [.int (nI p), .int a2]) rfl rfl rfl rfl (fr_ble rfl) hD.1 (fr_ble rfl) (ct_D_create hD hv.2.1 hv.2.2.1 hp (fun v e hc h1 S' hD1 ht1 g1 => ?_) (fun hno => ?_))
  · have hM1 := hM.ag g1 (Or.inr (by omega))
    (iterate 5 (first | refine pm_W.ts rfl rfl ?_ | refine pm_W.tl rfl rfl ?_))
    rw [show nI i + Int32.ofInt 1 = nI (i + 1) from nI_add i 1]
    refine pm_W.sald rfl (pm_ix_ok (j := i + 1) (by omega) (by omega)) ?_
    rw [e1]
    (iterate 4 (first | refine pm_W.ts rfl rfl ?_ | refine pm_W.tl rfl rfl ?_))
    rw [show nI i + Int32.ofInt 2 = nI (i + 2) from nI_add i 2]
    refine pm_W.sald rfl (pm_ix_ok (j := i + 2) (by omega) (by omega)) ?_
    rw [e2]
    refine pm_W.callV (d' := 2) (as := [.int (nI p), .int a2]) rfl rfl rfl rfl (fr_ble rfl) hM1.1 (fr_ble rfl) (ct_M_create hM1 hs.1 hv.2.1 hp (fun v' e' hc' g A' hM2 hm2 hr2 g2 => ?_) (fun hno => absurd hc (hno v e)))
    have hvv : v' = v := nI_u (by have := hc'.2.2.1; omega) (by have := hc.2.2.1; omega) hc'.2.2.2.1 hc.2.2.2.1
    have hee : e' = e := by
      obtain ⟨-, -, -, -, -, -, q1, q2, q3⟩ := hc
      obtain ⟨-, -, -, -, -, -, r1, r2, r3⟩ := hc'
      rcases Nat.lt_trichotomy e' e with q | q | q
      · exact absurd r2 (q3 e' q)
      · exact q
      · exact absurd q2 (r3 e q)
    subst hvv
    subst hee
    exact pm_W.icmp rfl (fun _ => K g ⟨im, st, ca, sd, ws, ta, f, S', _, A', I, hD1.uout g2 (Or.inr (by omega)), hM2, lw_tree hs hm2 hr2, ⟨hv.1, tV_create hv.2.1 hc, ht1, hv.2.2.2⟩, by rw [g2.2.1, g1.2.1]; omega, by rw [g2.1, g1.1]; omega⟩) (fun q => absurd rfl q)
  · (iterate 5 (first | refine pm_W.ts rfl rfl ?_ | refine pm_W.tl rfl rfl ?_))
    rw [show nI i + Int32.ofInt 1 = nI (i + 1) from nI_add i 1]
    refine pm_W.sald rfl (pm_ix_ok (j := i + 1) (by omega) (by omega)) ?_
    rw [e1]
    (iterate 4 (first | refine pm_W.ts rfl rfl ?_ | refine pm_W.tl rfl rfl ?_))
    rw [show nI i + Int32.ofInt 2 = nI (i + 2) from nI_add i 2]
    refine pm_W.sald rfl (pm_ix_ok (j := i + 2) (by omega) (by omega)) ?_
    rw [e2]
    refine pm_W.callV (d' := 2) (as := [.int (nI p), .int a2]) rfl rfl rfl rfl (fr_ble rfl) hM.1 (fr_ble rfl) (ct_M_create hM hs.1 hv.2.1 hp (fun v' e' hc' g A' hM2 hm2 hr2 g2 => absurd hc' (hno v' e')) (fun _ => ?_))
    exact pm_W.icmp rfl (fun _ => K h (lw_up H)) (fun q => absurd rfl q)
theorem lw_c1 (H : lw_h h z c) (hi : i + 5 < xs.length) (hx : xs.length ≤ 4000) (K : ∀ h', lw_h h' z (c + 1) → pm_W xs 8 pt_law 690 [.retAddr 1, .ref 0, .ref 185, .int (nI i)] [] h' Q) : pm_W xs 8 pt_law 185 [.retAddr 1, .ref 0, .ref 185, .int (nI i)] [] h Q := by
  obtain ⟨im, st, ca, sd, ws, ta, f, S, T, A, I, hD, hM, hs, hv, n1, n2⟩ := id H
  obtain ⟨p, hp, e1⟩ := fr_any (xs.getD (i + 1) 0)
  obtain ⟨a2, e2⟩ : ∃ a, xs.getD (i + 2) 0 = a := ⟨_, rfl⟩
  obtain ⟨a3, e3⟩ : ∃ a, xs.getD (i + 3) 0 = a := ⟨_, rfl⟩
  (iterate 5 (first | refine pm_W.ts rfl rfl ?_ | refine pm_W.tl rfl rfl ?_))
  rw [show nI i + Int32.ofInt 1 = nI (i + 1) from nI_add i 1]
  refine pm_W.sald rfl (pm_ix_ok (j := i + 1) (by omega) (by omega)) ?_
  rw [e1]
  (iterate 4 (first | refine pm_W.ts rfl rfl ?_ | refine pm_W.tl rfl rfl ?_))
  rw [show nI i + Int32.ofInt 2 = nI (i + 2) from nI_add i 2]
  refine pm_W.sald rfl (pm_ix_ok (j := i + 2) (by omega) (by omega)) ?_
  rw [e2]
  (iterate 4 (first | refine pm_W.ts rfl rfl ?_ | refine pm_W.tl rfl rfl ?_))
  rw [show nI i + Int32.ofInt 3 = nI (i + 3) from nI_add i 3]
  refine pm_W.sald rfl (pm_ix_ok (j := i + 3) (by omega) (by omega)) ?_
  rw [e3]
  refine pm_W.callV (d' := 5) (as := [.int (nI p), .int a2, .int a3]) rfl rfl rfl rfl (fr_ble rfl) hD.1 (fr_ble rfl) (ct_D_append hD hv.2.1 hv.2.2.1 hp (fun e n hc hn h1 S' hD1 ht1 g1 => ?_) (fun hno => ?_))
  · have hM1 := hM.ag g1 (Or.inr (by omega))
    (iterate 5 (first | refine pm_W.ts rfl rfl ?_ | refine pm_W.tl rfl rfl ?_))
    rw [show nI i + Int32.ofInt 1 = nI (i + 1) from nI_add i 1]
    refine pm_W.sald rfl (pm_ix_ok (j := i + 1) (by omega) (by omega)) ?_
    rw [e1]
    (iterate 4 (first | refine pm_W.ts rfl rfl ?_ | refine pm_W.tl rfl rfl ?_))
    rw [show nI i + Int32.ofInt 2 = nI (i + 2) from nI_add i 2]
    refine pm_W.sald rfl (pm_ix_ok (j := i + 2) (by omega) (by omega)) ?_
    rw [e2]
    (iterate 4 (first | refine pm_W.ts rfl rfl ?_ | refine pm_W.tl rfl rfl ?_))
    rw [show nI i + Int32.ofInt 3 = nI (i + 3) from nI_add i 3]
    refine pm_W.sald rfl (pm_ix_ok (j := i + 3) (by omega) (by omega)) ?_
    rw [e3]
    refine pm_W.callV (d' := 3) (as := [.int (nI p), .int a2, .int a3]) rfl rfl rfl rfl (fr_ble rfl) hM1.1 (fr_ble rfl) (ct_M_append hM1 hs.1 hv.2.1 hp (fun e' n' hc' hn' g A' hM2 hm2 hr2 g2 => ?_) (fun hno => absurd hn (hno e n hc)))
    have hnn : n' = n := nI_u (by have := hc'.2.2.1; omega) (by have := hc.2.2.1; omega) hn' hn
    have hee : e' = e := fl_u hv.2.1 hc'.1 hc.1
    subst hnn
    subst hee
    exact pm_W.icmp rfl (fun _ => K g ⟨im, st, ca, sd, ws, ta, f, S', _, A', I, hD1.uout g2 (Or.inr (by omega)), hM2, lw_tree hs hm2 hr2, ⟨hv.1, tV_append hv.2.1 hc, ht1, hv.2.2.2⟩, by rw [g2.2.1, g1.2.1]; omega, by rw [g2.1, g1.1]; omega⟩) (fun q => absurd rfl q)
  · (iterate 5 (first | refine pm_W.ts rfl rfl ?_ | refine pm_W.tl rfl rfl ?_))
    rw [show nI i + Int32.ofInt 1 = nI (i + 1) from nI_add i 1]
    refine pm_W.sald rfl (pm_ix_ok (j := i + 1) (by omega) (by omega)) ?_
    rw [e1]
    (iterate 4 (first | refine pm_W.ts rfl rfl ?_ | refine pm_W.tl rfl rfl ?_))
    rw [show nI i + Int32.ofInt 2 = nI (i + 2) from nI_add i 2]
    refine pm_W.sald rfl (pm_ix_ok (j := i + 2) (by omega) (by omega)) ?_
    rw [e2]
    (iterate 4 (first | refine pm_W.ts rfl rfl ?_ | refine pm_W.tl rfl rfl ?_))
    rw [show nI i + Int32.ofInt 3 = nI (i + 3) from nI_add i 3]
    refine pm_W.sald rfl (pm_ix_ok (j := i + 3) (by omega) (by omega)) ?_
    rw [e3]
    refine pm_W.callV (d' := 3) (as := [.int (nI p), .int a2, .int a3]) rfl rfl rfl rfl (fr_ble rfl) hM.1 (fr_ble rfl) (ct_M_append hM hs.1 hv.2.1 hp (fun e' n' hc' hn' g A' hM2 hm2 hr2 g2 => absurd hn' (hno e' n' hc')) (fun _ => ?_))
    exact pm_W.icmp rfl (fun _ => K h (lw_up H)) (fun q => absurd rfl q)
theorem lw_c2 (H : lw_h h z c) (hi : i + 5 < xs.length) (hx : xs.length ≤ 4000) (K : ∀ h', lw_h h' z (c + 1) → pm_W xs 8 pt_law 690 [.retAddr 1, .ref 0, .ref 185, .int (nI i)] [] h' Q) : pm_W xs 8 pt_law 228 [.retAddr 1, .ref 0, .ref 185, .int (nI i)] [] h Q := by
  obtain ⟨im, st, ca, sd, ws, ta, f, S, T, A, I, hD, hM, hs, hv, n1, n2⟩ := id H
  obtain ⟨p, hp, e1⟩ := fr_any (xs.getD (i + 1) 0)
  obtain ⟨a2, e2⟩ : ∃ a, xs.getD (i + 2) 0 = a := ⟨_, rfl⟩
  obtain ⟨a3, e3⟩ : ∃ a, xs.getD (i + 3) 0 = a := ⟨_, rfl⟩
  (iterate 5 (first | refine pm_W.ts rfl rfl ?_ | refine pm_W.tl rfl rfl ?_))
  rw [show nI i + Int32.ofInt 1 = nI (i + 1) from nI_add i 1]
  refine pm_W.sald rfl (pm_ix_ok (j := i + 1) (by omega) (by omega)) ?_
  rw [e1]
  (iterate 4 (first | refine pm_W.ts rfl rfl ?_ | refine pm_W.tl rfl rfl ?_))
  rw [show nI i + Int32.ofInt 2 = nI (i + 2) from nI_add i 2]
  refine pm_W.sald rfl (pm_ix_ok (j := i + 2) (by omega) (by omega)) ?_
  rw [e2]
  (iterate 4 (first | refine pm_W.ts rfl rfl ?_ | refine pm_W.tl rfl rfl ?_))
  rw [show nI i + Int32.ofInt 3 = nI (i + 3) from nI_add i 3]
  refine pm_W.sald rfl (pm_ix_ok (j := i + 3) (by omega) (by omega)) ?_
  rw [e3]
  refine pm_W.callV (d' := 5) (as := [.int (nI p), .int a2, .int a3]) rfl rfl rfl rfl (fr_ble rfl) hD.1 (fr_ble rfl) (ct_D_edit hD hv.2.1 hv.2.2.1 hp (fun e n hc hl hn h1 S' hD1 ht1 g1 => ?_) (fun hno => ?_))
  · have hM1 := hM.ag g1 (Or.inr (by omega))
    (iterate 5 (first | refine pm_W.ts rfl rfl ?_ | refine pm_W.tl rfl rfl ?_))
    rw [show nI i + Int32.ofInt 1 = nI (i + 1) from nI_add i 1]
    refine pm_W.sald rfl (pm_ix_ok (j := i + 1) (by omega) (by omega)) ?_
    rw [e1]
    (iterate 4 (first | refine pm_W.ts rfl rfl ?_ | refine pm_W.tl rfl rfl ?_))
    rw [show nI i + Int32.ofInt 2 = nI (i + 2) from nI_add i 2]
    refine pm_W.sald rfl (pm_ix_ok (j := i + 2) (by omega) (by omega)) ?_
    rw [e2]
    (iterate 4 (first | refine pm_W.ts rfl rfl ?_ | refine pm_W.tl rfl rfl ?_))
    rw [show nI i + Int32.ofInt 3 = nI (i + 3) from nI_add i 3]
    refine pm_W.sald rfl (pm_ix_ok (j := i + 3) (by omega) (by omega)) ?_
    rw [e3]
    refine pm_W.callV (d' := 3) (as := [.int (nI p), .int a2, .int a3]) rfl rfl rfl rfl (fr_ble rfl) hM1.1 (fr_ble rfl) (ct_M_edit hM1 hs.1 hv.2.1 hp (fun e' n' hc' hl' hn' g A' hM2 hm2 hr2 g2 => ?_) (fun hno => absurd hn (hno e n hc hl)))
    have hee : e' = e := fl_u hv.2.1 hc' hc
    subst hee
    have l16 := (hv.2.1.1 e' hc.2.2.1 (by rw [hc.2.2.2.1]; exact hc.2.1)).2.2.1
    have hnn : n' = n := nI_u (by omega) (by omega) hn' hn
    subst hnn
    exact pm_W.icmp rfl (fun _ => K g ⟨im, st, ca, sd, ws, ta, f, S', _, A', I, hD1.uout g2 (Or.inr (by omega)), hM2, lw_tree hs hm2 hr2, ⟨hv.1, tV_edit hv.2.1 hc hl, ht1, hv.2.2.2⟩, by rw [g2.2.1, g1.2.1]; omega, by rw [g2.1, g1.1]; omega⟩) (fun q => absurd rfl q)
  · (iterate 5 (first | refine pm_W.ts rfl rfl ?_ | refine pm_W.tl rfl rfl ?_))
    rw [show nI i + Int32.ofInt 1 = nI (i + 1) from nI_add i 1]
    refine pm_W.sald rfl (pm_ix_ok (j := i + 1) (by omega) (by omega)) ?_
    rw [e1]
    (iterate 4 (first | refine pm_W.ts rfl rfl ?_ | refine pm_W.tl rfl rfl ?_))
    rw [show nI i + Int32.ofInt 2 = nI (i + 2) from nI_add i 2]
    refine pm_W.sald rfl (pm_ix_ok (j := i + 2) (by omega) (by omega)) ?_
    rw [e2]
    (iterate 4 (first | refine pm_W.ts rfl rfl ?_ | refine pm_W.tl rfl rfl ?_))
    rw [show nI i + Int32.ofInt 3 = nI (i + 3) from nI_add i 3]
    refine pm_W.sald rfl (pm_ix_ok (j := i + 3) (by omega) (by omega)) ?_
    rw [e3]
    refine pm_W.callV (d' := 3) (as := [.int (nI p), .int a2, .int a3]) rfl rfl rfl rfl (fr_ble rfl) hM.1 (fr_ble rfl) (ct_M_edit hM hs.1 hv.2.1 hp (fun e' n' hc' hl' hn' g A' hM2 hm2 hr2 g2 => absurd hn' (hno e' n' hc' hl')) (fun _ => ?_))
    exact pm_W.icmp rfl (fun _ => K h (lw_up H)) (fun q => absurd rfl q)
theorem lw_c3 (H : lw_h h z c) (hi : i + 5 < xs.length) (hx : xs.length ≤ 4000) (K : ∀ h', lw_h h' z (c + 1) → pm_W xs 8 pt_law 690 [.retAddr 1, .ref 0, .ref 185, .int (nI i)] [] h' Q) : pm_W xs 8 pt_law 271 [.retAddr 1, .ref 0, .ref 185, .int (nI i)] [] h Q := by
  obtain ⟨im, st, ca, sd, ws, ta, f, S, T, A, I, hD, hM, hs, hv, n1, n2⟩ := id H
  obtain ⟨p, hp, e1⟩ := fr_any (xs.getD (i + 1) 0)
  (iterate 5 (first | refine pm_W.ts rfl rfl ?_ | refine pm_W.tl rfl rfl ?_))
  rw [show nI i + Int32.ofInt 1 = nI (i + 1) from nI_add i 1]
  refine pm_W.sald rfl (pm_ix_ok (j := i + 1) (by omega) (by omega)) ?_
  rw [e1]
  refine pm_W.callV (d' := 4) (as := [.int (nI p)]) rfl rfl rfl rfl (fr_ble rfl) hD.1 (fr_ble rfl) (ct_D_remove hD hv.2.1 hv.2.2.1 hp (fun q1 q2 q3 h1 S' hD1 ht1 g1 => ?_) (fun hno => ?_))
  · have hM1 := hM.ag g1 (Or.inr (by omega))
    (iterate 5 (first | refine pm_W.ts rfl rfl ?_ | refine pm_W.tl rfl rfl ?_))
    rw [show nI i + Int32.ofInt 1 = nI (i + 1) from nI_add i 1]
    refine pm_W.sald rfl (pm_ix_ok (j := i + 1) (by omega) (by omega)) ?_
    rw [e1]
    refine pm_W.callV (d' := 2) (as := [.int (nI p)]) rfl rfl rfl rfl (fr_ble rfl) hM1.1 (fr_ble rfl) (ct_M_remove hM1 hs.1 hv.2.1 hp (fun _ _ _ g A' hM2 hm2 hr2 g2 => ?_) (fun hno => absurd ⟨q1, q2, q3⟩ hno))
    exact pm_W.icmp rfl (fun _ => K g ⟨im, st, ca, sd, ws, ta, f, S', _, A', I, hD1.uout g2 (Or.inr (by omega)), hM2, lw_tree hs hm2 hr2, ⟨hv.1, tV_remove hv.2.1 q1, ht1, hv.2.2.2⟩, by rw [g2.2.1, g1.2.1]; omega, by rw [g2.1, g1.1]; omega⟩) (fun q => absurd rfl q)
  · (iterate 5 (first | refine pm_W.ts rfl rfl ?_ | refine pm_W.tl rfl rfl ?_))
    rw [show nI i + Int32.ofInt 1 = nI (i + 1) from nI_add i 1]
    refine pm_W.sald rfl (pm_ix_ok (j := i + 1) (by omega) (by omega)) ?_
    rw [e1]
    refine pm_W.callV (d' := 2) (as := [.int (nI p)]) rfl rfl rfl rfl (fr_ble rfl) hM.1 (fr_ble rfl) (ct_M_remove hM hs.1 hv.2.1 hp (fun q1 q2 q3 g A' hM2 hm2 hr2 g2 => absurd ⟨q1, q2, q3⟩ hno) (fun _ => ?_))
    exact pm_W.icmp rfl (fun _ => K h (lw_up H)) (fun q => absurd rfl q)
end LTREE
