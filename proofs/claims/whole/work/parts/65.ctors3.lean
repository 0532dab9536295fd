section CTORS3
variable {xs : List Int32} {h : pm_H} {b : Nat} {Q : Option Value → pm_H → Prop}
theorem ct_D_images {f1 f3 f4 f5 f6 f7 f8 f9 f10 : Value} {l m o : Int32} (hk : ∀ g : pm_H, g.1[b]? = some (.inr (.inr (kD, [f1, .ref (b + 2), f3, f4, f5, f6, f7, f8, f9, f10]))) → g.1[b + 2]? = some (.inr (.inl (kP, [some (b + 3), some (b + 6), some (b + 9), some (b + 12)]))) → (∀ i, i < 4 → pl_R g (b + 3 + 3 * i) []) → fr_mk b (b + 2) 12 132 h g → pm_W xs 2 mD_init 55 [.ref b, .int l, .int m, .int o, .int (nI 4)] [] g Q)
    (h1 : h.1[b]? = some (.inr (.inr (kD, [f1, .ref (b + 2), f3, f4, f5, f6, f7, f8, f9, f10])))) (h2 : h.1[b + 2]? = some (.inr (.inl (kP, List.replicate 4 none)))) (hl : h.1.length = b + 3) : pm_W xs 2 mD_init 29 [.ref b, .int l, .int m, .int o, .int (nI 0)] [] h Q := by
  have loop : ∀ (r i : Nat) (g : pm_H), i + r = 4 → g.1[b]? = some (.inr (.inr (kD, [f1, .ref (b + 2), f3, f4, f5, f6, f7, f8, f9, f10]))) → g.1[b + 2]? = some (.inr (.inl (kP, fr_rw (fun j => b + 3 + 3 * j) 4 i))) → (∀ j, j < i → pl_R g (b + 3 + 3 * j) []) → fr_mk b (b + 2) (3 * i) (33 * i) h g → pm_W xs 2 mD_init 29 [.ref b, .int l, .int m, .int o, .int (nI i)] [] g Q := by
    intro r
    induction r with
    | zero =>
      intro i g hi g1 g2 g3 hfr
      have e : i = 4 := by omega
      subst e
      (repeat (first | refine pm_W.ts rfl rfl ?_ | refine pm_W.tl rfl rfl ?_))
      refine pm_W.icmp rfl (fun c => hk g g1 g2 g3 hfr) (fun c => ?_)
      have c : ¬ nI 4 ≤ nI 4 := c
      rw [nI_leI (by omega) (by omega)] at c
      omega
    | succ r ih =>
      intro i g hi g1 g2 g3 hfr
      have hlg : g.1.length = b + 3 + 3 * i := by have := hfr.1; omega
      (repeat (first | refine pm_W.ts rfl rfl ?_ | refine pm_W.tl rfl rfl ?_))
      refine pm_W.icmp rfl (fun c => ?_) (fun c => ?_)
      · have c : nI 4 ≤ nI i := c
        rw [nI_leI (by omega) (by omega)] at c
        omega
      · (repeat (first | refine pm_W.ts rfl rfl ?_ | refine pm_W.tl rfl rfl ?_ | refine pm_W.get rfl rfl g1 rfl ?_))
        refine pm_W.newF rfl rfl hlg (fun u1 p1 e1 => ?_)
        (repeat (first | refine pm_W.ts rfl rfl ?_ | refine pm_W.tl rfl rfl ?_))
        refine pm_W.callI (d' := 0) (as := []) rfl rfl rfl rfl (fr_ble rfl) p1 (fr_ble rfl) (ct_P_init p1 (by rw [e1.1, hlg]) (fun u2 r2 e2 => ?_))
        have fall := e1.tr e2
        obtain ⟨es, is, v1, -⟩ := id r2
        have q2 := (fall.2.2 (b + 2) (by omega)).trans g2
        refine pm_W.aast rfl q2 v1 (pm_ix_ok (j := i) (by rw [fr_rw_len]; omega) (by rw [fr_rw_len]; omega)) (by decide) ?_
        rw [fr_rw_1 (f := fun j => b + 3 + 3 * j) (by omega)]
        (repeat (first | refine pm_W.ts rfl rfl ?_ | refine pm_W.tl rfl rfl ?_))
        refine pm_W.goto rfl ?_
        rw [fr_inc]
        refine ih (i + 1) _ (by omega) (fr_ne ((fall.2.2 b (by omega)).trans g1) (by omega)) (fr_set q2) (fun j hj => ?_) ?_
        · by_cases e : j = i
          · subst e
            exact r2.keep fun k _ _ => List.getElem?_set_ne (by omega)
          · refine (g3 j (by omega)).keep fun k _ _ => ?_
            show (u2.1.set (b + 2) _)[k]? = _
            rw [List.getElem?_set_ne (by omega)]
            exact fall.2.2 k (by omega)
        · have := (hfr.tr (fr_mk.N (a := b) fall) (by omega)).tr (fr_mk.N (a := b) (fr_new_set (a := b + 2) (c := .inr (.inl (kP, fr_rw (fun j => b + 3 + 3 * j) 4 (i + 1)))) (Nat.le_refl (b + 2)))) (Nat.le_refl _)
          rw [show 3 * (i + 1) = 3 * i + (1 + 2) + 0 by omega, show 33 * (i + 1) = 33 * i + (3 + 30) + 0 by omega]
          exact this
  exact loop 4 0 h (by omega) h1 (by rw [fr_rw_0]; exact h2) (fun j hj => by omega) ⟨rfl, rfl, fun _ _ _ => rfl⟩
theorem ct_D_seeds {f1 f2 f3 f4 f6 f7 f8 f9 f10 : Value} {l m o : Int32} (hk : ∀ g : pm_H, g.1[b]? = some (.inr (.inr (kD, [f1, f2, f3, f4, .ref (b + 113), f6, f7, f8, f9, f10]))) → g.1[b + 113]? = some (.inr (.inl (kS, [some (b + 114), some (b + 120)]))) → (∀ i, i < 2 → sd_R g (b + 114 + 6 * i) [] []) → fr_mk b (b + 113) 12 308 h g → pm_W xs 2 mD_init 118 [.ref b, .int l, .int m, .int o, .int (nI 2)] [] g Q)
    (h1 : h.1[b]? = some (.inr (.inr (kD, [f1, f2, f3, f4, .ref (b + 113), f6, f7, f8, f9, f10])))) (h2 : h.1[b + 113]? = some (.inr (.inl (kS, List.replicate 2 none)))) (hl : h.1.length = b + 114) : pm_W xs 2 mD_init 92 [.ref b, .int l, .int m, .int o, .int (nI 0)] [] h Q := by
  have loop : ∀ (r i : Nat) (g : pm_H), i + r = 2 → g.1[b]? = some (.inr (.inr (kD, [f1, f2, f3, f4, .ref (b + 113), f6, f7, f8, f9, f10]))) → g.1[b + 113]? = some (.inr (.inl (kS, fr_rw (fun j => b + 114 + 6 * j) 2 i))) → (∀ j, j < i → sd_R g (b + 114 + 6 * j) [] []) → fr_mk b (b + 113) (6 * i) (154 * i) h g → pm_W xs 2 mD_init 92 [.ref b, .int l, .int m, .int o, .int (nI i)] [] g Q := by
    intro r
    induction r with
    | zero =>
      intro i g hi g1 g2 g3 hfr
      have e : i = 2 := by omega
      subst e
      (repeat (first | refine pm_W.ts rfl rfl ?_ | refine pm_W.tl rfl rfl ?_))
      refine pm_W.icmp rfl (fun c => hk g g1 g2 g3 hfr) (fun c => ?_)
      have c : ¬ nI 2 ≤ nI 2 := c
      rw [nI_leI (by omega) (by omega)] at c
      omega
    | succ r ih =>
      intro i g hi g1 g2 g3 hfr
      have hlg : g.1.length = b + 114 + 6 * i := by have := hfr.1; omega
      (repeat (first | refine pm_W.ts rfl rfl ?_ | refine pm_W.tl rfl rfl ?_))
      refine pm_W.icmp rfl (fun c => ?_) (fun c => ?_)
      · have c : nI 2 ≤ nI i := c
        rw [nI_leI (by omega) (by omega)] at c
        omega
      · (repeat (first | refine pm_W.ts rfl rfl ?_ | refine pm_W.tl rfl rfl ?_ | refine pm_W.get rfl rfl g1 rfl ?_))
        refine pm_W.newF rfl rfl hlg (fun u1 p1 e1 => ?_)
        (repeat (first | refine pm_W.ts rfl rfl ?_ | refine pm_W.tl rfl rfl ?_))
        refine pm_W.callI (d' := 1) (as := []) rfl rfl rfl rfl (fr_ble rfl) p1 (fr_ble rfl) (ct_S_init p1 (by rw [e1.1, hlg]) (fun u2 r2 e2 => ?_))
        have fall := e1.tr e2
        have v1 := r2.1
        have q2 := (fall.2.2 (b + 113) (by omega)).trans g2
        refine pm_W.aast rfl q2 v1 (pm_ix_ok (j := i) (by rw [fr_rw_len]; omega) (by rw [fr_rw_len]; omega)) (by decide) ?_
        rw [fr_rw_1 (f := fun j => b + 114 + 6 * j) (by omega)]
        (repeat (first | refine pm_W.ts rfl rfl ?_ | refine pm_W.tl rfl rfl ?_))
        refine pm_W.goto rfl ?_
        rw [fr_inc]
        refine ih (i + 1) _ (by omega) (fr_ne ((fall.2.2 b (by omega)).trans g1) (by omega)) (fr_set q2) (fun j hj => ?_) ?_
        · by_cases e : j = i
          · subst e
            exact r2.ag (fr_agset (lo := b + 113) (hi := b + 114) (by omega) (by omega)) (by omega)
          · have z := g3 j (by omega)
            have kp : ∀ k, b + 114 + 6 * j ≤ k → k < b + 114 + 6 * j + 6 → (u2.1.set (b + 113) (.inr (.inl (kS, fr_rw (fun j => b + 114 + 6 * j) 2 (i + 1)))))[k]? = g.1[k]? := by
              intro k _ _
              rw [List.getElem?_set_ne (by omega)]
              exact fall.2.2 k (by omega)
            exact ⟨(kp _ (by omega) (by omega)).trans z.1, z.2.1.keep (fun k _ _ => kp k (by omega) (by omega)), z.2.2.keep (fun k _ _ => kp k (by omega) (by omega))⟩
        · have := (hfr.tr (fr_mk.N (a := b) fall) (by omega)).tr (fr_mk.N (a := b) (fr_new_set (a := b + 113) (c := .inr (.inl (kS, fr_rw (fun j => b + 114 + 6 * j) 2 (i + 1)))) (Nat.le_refl (b + 113)))) (Nat.le_refl _)
          rw [show 6 * (i + 1) = 6 * i + (1 + 5) + 0 by omega, show 154 * (i + 1) = 154 * i + (2 + 152) + 0 by omega]
          exact this
  exact loop 2 0 h (by omega) h1 (by rw [fr_rw_0]; exact h2) (fun j hj => by omega) ⟨rfl, rfl, fun _ _ _ => rfl⟩
theorem ct_D_init {l m o : Int32} (hr : h.1[b]? = some (.inr (.inr (kD, [.null, .null, .null, .null, .null, .null, .null, .null, .null, .null])))) (hl : h.1.length = b + 1)
    (k : ∀ h' : pm_H, dp_R h' b (cz_mk l m o) (fun _ => []) [] [] (fun _ => ([], [])) [] [0, 0, 0, 0] false tr_S0 → fr_new b 184 2848 h h' → Q none h') : pm_X xs 2 mD_init [.ref b, .int l, .int m, .int o] h Q := by
  unfold pm_X
  (repeat (first | refine pm_W.ts rfl rfl ?_ | refine pm_W.tl rfl rfl ?_))
  refine pm_W.obj rfl rfl rfl rfl ?_
  (repeat (first | refine pm_W.ts rfl rfl ?_ | refine pm_W.tl rfl rfl ?_))
  refine pm_W.newF rfl rfl hl (fun g1 p1 e1 => ?_)
  (repeat (first | refine pm_W.ts rfl rfl ?_ | refine pm_W.tl rfl rfl ?_))
  refine pm_W.callI (d' := 0) (as := [.int l, .int m, .int o]) rfl rfl rfl rfl (fr_ble rfl) p1 (fr_ble rfl) (ct_C_init p1 (fun g2 c2 e2 => ?_))
  have o2 := e2.at (by omega) ((e1.2.2 b (by omega)).trans hr)
  refine pm_W.putF rfl rfl o2 (fr_ble rfl) rfl (Or.inr ⟨rfl, rfl⟩) (fun g3 o3 e3 => ?_)
  have e2' : fr_mk b (b + 1) 0 0 g1 g2 := ⟨e2.2.1, e2.1, fun k _ _ => e2.2.2 k (by omega)⟩
  have s1 := ((fr_mk.N (a := b) e1).tr e2' (by omega)).tr (fr_mk.A (p := b + 2) e3) (by omega)
  have c2 : cz_R g3 (b + 1) (cz_mk l m o) := e3.at (by omega) c2
  have l3 : g3.1.length = b + 2 := by have := s1.1; omega
  (repeat (first | refine pm_W.ts rfl rfl ?_ | refine pm_W.tl rfl rfl ?_))
  refine pm_W.anewF (n := 4) rfl rfl l3 (by omega) (fun g4 p4 e4 => ?_)
  have o4 := (e4.2.2 b (by omega)).trans o3
  refine pm_W.putF rfl rfl o4 (fr_ble rfl) rfl (Or.inr ⟨rfl, rfl⟩) (fun g5 o5 e5 => ?_)
  have s2a := (fr_mk.N (a := b) e4).tr (fr_mk.A (p := b + 3) e5) (by omega)
  have p5 := e5.at (by omega) p4
  have l5 : g5.1.length = b + 3 := by have := s2a.1; omega
  (iterate 2 (first | refine pm_W.ts rfl rfl ?_ | refine pm_W.tl rfl rfl ?_))
  refine ct_D_images (fun g6 o6 i6 im6 s2b => ?_) o5 p5 l5
  have s2 := s2a.tr s2b (Nat.le_refl _)
  have l6 : g6.1.length = b + 15 := by have := s2b.1; omega
  (repeat (first | refine pm_W.ts rfl rfl ?_ | refine pm_W.tl rfl rfl ?_))
  refine pm_W.newF rfl rfl l6 (fun g7 p7 e7 => ?_)
  (repeat (first | refine pm_W.ts rfl rfl ?_ | refine pm_W.tl rfl rfl ?_))
  refine pm_W.callI (d' := 1) (as := [.int (nI 40)]) rfl rfl rfl rfl (fr_ble rfl) p7 (fr_ble rfl) (ct_K_init (room := 40) p7 (by rw [e7.1, l6]) (by omega) (fun g8 r8 e8 => ?_))
  have o8 := ((e7.tr e8).2.2 b (by omega)).trans o6
  refine pm_W.putF rfl rfl o8 (fr_ble rfl) rfl (Or.inr ⟨rfl, rfl⟩) (fun g9 o9 e9 => ?_)
  have s3 := (fr_mk.N (a := b) (e7.tr e8)).tr (fr_mk.A (p := b + 98) e9) (by omega)
  have r9 := r8.ag e9 (by omega)
  have l9 : g9.1.length = b + 98 := by have := s3.1; omega
  (repeat (first | refine pm_W.ts rfl rfl ?_ | refine pm_W.tl rfl rfl ?_))
  refine pm_W.newF rfl rfl l9 (fun g10 p10 e10 => ?_)
  (repeat (first | refine pm_W.ts rfl rfl ?_ | refine pm_W.tl rfl rfl ?_))
  refine pm_W.callI (d' := 1) (as := [.int (nI 6)]) rfl rfl rfl rfl (fr_ble rfl) p10 (fr_ble rfl) (ct_K_init (room := 6) p10 (by rw [e10.1, l9]) (by omega) (fun g11 r11 e11 => ?_))
  have o11 := ((e10.tr e11).2.2 b (by omega)).trans o9
  refine pm_W.putF rfl rfl o11 (fr_ble rfl) rfl (Or.inr ⟨rfl, rfl⟩) (fun g12 o12 e12 => ?_)
  have s4 := (fr_mk.N (a := b) (e10.tr e11)).tr (fr_mk.A (p := b + 113) e12) (by omega)
  have r12 := r11.ag e12 (by omega)
  have l12 : g12.1.length = b + 113 := by have := s4.1; omega
  (repeat (first | refine pm_W.ts rfl rfl ?_ | refine pm_W.tl rfl rfl ?_))
  refine pm_W.anewF (n := 2) rfl rfl l12 (by omega) (fun g13 p13 e13 => ?_)
  have o13 := (e13.2.2 b (by omega)).trans o12
  refine pm_W.putF rfl rfl o13 (fr_ble rfl) rfl (Or.inr ⟨rfl, rfl⟩) (fun g14 o14 e14 => ?_)
  have s5a := (fr_mk.N (a := b) e13).tr (fr_mk.A (p := b + 114) e14) (by omega)
  have p14 := e14.at (by omega) p13
  have l14 : g14.1.length = b + 114 := by have := s5a.1; omega
  (iterate 2 (first | refine pm_W.ts rfl rfl ?_ | refine pm_W.tl rfl rfl ?_))
  refine ct_D_seeds (fun g15 o15 i15 sd15 s5b => ?_) o14 p14 l14
  have s5 := s5a.tr s5b (Nat.le_refl _)
  have l15 : g15.1.length = b + 126 := by have := s5b.1; omega
  (repeat (first | refine pm_W.ts rfl rfl ?_ | refine pm_W.tl rfl rfl ?_))
  refine pm_W.newF rfl rfl l15 (fun g16 p16 e16 => ?_)
  (repeat (first | refine pm_W.ts rfl rfl ?_ | refine pm_W.tl rfl rfl ?_))
  refine pm_W.callI (d' := 0) (as := [.int (nI 117)]) rfl rfl rfl rfl (fr_ble rfl) p16 (fr_ble rfl) (ct_B_init (room := 117) p16 (by rw [e16.1, l15]) (by omega) (fun g17 r17 e17 => ?_))
  have o17 := ((e16.tr e17).2.2 b (by omega)).trans o15
  refine pm_W.putF rfl rfl o17 (fr_ble rfl) rfl (Or.inr ⟨rfl, rfl⟩) (fun g18 o18 e18 => ?_)
  have s6 := (fr_mk.N (a := b) (e16.tr e17)).tr (fr_mk.A (p := b + 128) e18) (by omega)
  have r18 := r17.ag e18 (by omega)
  have l18 : g18.1.length = b + 128 := by have := s6.1; omega
  (repeat (first | refine pm_W.ts rfl rfl ?_ | refine pm_W.tl rfl rfl ?_))
  refine pm_W.newF rfl rfl l18 (fun g19 p19 e19 => ?_)
  (repeat (first | refine pm_W.ts rfl rfl ?_ | refine pm_W.tl rfl rfl ?_))
  refine pm_W.callI (d' := 0) (as := [.int (nI 120)]) rfl rfl rfl rfl (fr_ble rfl) p19 (fr_ble rfl) (ct_B_init (room := 120) p19 (by rw [e19.1, l18]) (by omega) (fun g20 r20 e20 => ?_))
  have o20 := ((e19.tr e20).2.2 b (by omega)).trans o18
  refine pm_W.putF rfl rfl o20 (fr_ble rfl) rfl (Or.inr ⟨rfl, rfl⟩) (fun g21 o21 e21 => ?_)
  have s7 := (fr_mk.N (a := b) (e19.tr e20)).tr (fr_mk.A (p := b + 130) e21) (by omega)
  have r21 := r20.ag e21 (by omega)
  have l21 : g21.1.length = b + 130 := by have := s7.1; omega
  (repeat (first | refine pm_W.ts rfl rfl ?_ | refine pm_W.tl rfl rfl ?_))
  refine pm_W.newaF (n := 4) rfl l21 (by omega) (fun g22 p22 e22 => ?_)
  have o22 := (e22.2.2 b (by omega)).trans o21
  refine pm_W.putF rfl rfl o22 (fr_ble rfl) rfl (Or.inr ⟨rfl, rfl⟩) (fun g23 o23 e23 => ?_)
  have s8 := (fr_mk.N (a := b) e22).tr (fr_mk.A (p := b + 131) e23) (by omega)
  have p23 := e23.at (by omega) p22
  have l23 : g23.1.length = b + 131 := by have := s8.1; omega
  (repeat (first | refine pm_W.ts rfl rfl ?_ | refine pm_W.tl rfl rfl ?_))
  refine pm_W.newF rfl rfl l23 (fun g24 p24 e24 => ?_)
  (repeat (first | refine pm_W.ts rfl rfl ?_ | refine pm_W.tl rfl rfl ?_))
  refine pm_W.callI (d' := 1) (as := []) rfl rfl rfl rfl (fr_ble rfl) p24 (fr_ble rfl) (ct_T_init p24 (by rw [e24.1, l23]) (fun g25 r25 e25 => ?_))
  have o25 := ((e24.tr e25).2.2 b (by omega)).trans o23
  refine pm_W.putF rfl rfl o25 (fr_ble rfl) rfl (Or.inr ⟨rfl, rfl⟩) (fun g26 o26 e26 => ?_)
  have s9 := (fr_mk.N (a := b) (e24.tr e25)).tr (fr_mk.A (p := b + 158) e26) (by omega)
  have r26 := r25.ag e26 (by omega)
  have l26 : g26.1.length = b + 158 := by have := s9.1; omega
  (repeat (first | refine pm_W.ts rfl rfl ?_ | refine pm_W.tl rfl rfl ?_))
  refine pm_W.newF rfl rfl l26 (fun g27 p27 e27 => ?_)
  (repeat (first | refine pm_W.ts rfl rfl ?_ | refine pm_W.tl rfl rfl ?_))
  refine pm_W.callI (d' := 1) (as := []) rfl rfl rfl rfl (fr_ble rfl) p27 (fr_ble rfl) (ct_T_init p27 (by rw [e27.1, l26]) (fun g28 r28 e28 => ?_))
  have o28 := ((e27.tr e28).2.2 b (by omega)).trans o26
  refine pm_W.putF rfl rfl o28 (fr_ble rfl) rfl (Or.inr ⟨rfl, rfl⟩) (fun g29 o29 e29 => ?_)
  have t10 := (fr_mk.N (a := b) (e27.tr e28)).tr (fr_mk.A (p := b + 185) e29) (by omega)
  have r29 := r28.ag e29 (by omega)
  have t9 := s9.tr t10 (by omega)
  have t8 := s8.tr t9 (by omega)
  have t7 := s7.tr t8 (by omega)
  have t6 := s6.tr t7 (by omega)
  have t5 := s5.tr t6 (by omega)
  have t4 := s4.tr t5 (by omega)
  have t3 := s3.tr t4 (by omega)
  have t2 := s2.tr t3 (by omega)
  have t1 := s1.tr t2 (by omega)
  refine pm_W.ret rfl rfl (k g29 ⟨o29, t2.at (by omega) (by omega) c2, t3.at (by omega) (by omega) i6, fun i hi => (im6 i hi).keep fun k _ _ => t3.2.2 k (by omega) (by omega), r9.keep fun k _ _ => t4.2.2 k (by omega) (by omega), r12.keep fun k _ _ => t5.2.2 k (by omega) (by omega), t6.at (by omega) (by omega) i15, fun s hs => ?_, ⟨[], r18.keep fun k _ _ => t7.2.2 k (by omega) (by omega)⟩, r21.keep fun k _ _ => t8.2.2 k (by omega) (by omega), t9.at (by omega) (by omega) p23, rfl, r26.keep fun k _ _ => t10.2.2 k (by omega) (by omega), tr_S0, r29, tr_S0_rt⟩ (t1.new (by omega)))
  obtain ⟨z1, z2, z3⟩ := sd15 s hs
  exact ⟨t6.at (by omega) (by omega) z1, z2.keep fun k _ _ => t6.2.2 k (by omega) (by omega), z3.keep fun k _ _ => t6.2.2 k (by omega) (by omega)⟩
end CTORS3
