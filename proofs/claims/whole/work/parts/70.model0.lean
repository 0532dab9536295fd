def mr_n (i : Nat) : Nat := [0, 1952, 2, 20, 20, 20, 320, 7, 112, 112, 112, 4, 16, 46, 46].getD i 0
def mr_F (o : Nat) (I : Nat → Int32) : List Value := [.ref (o + 1), .int (I 0), .int (I 1), .ref (o + 2), .int (I 2), .int (I 3), .int (I 4), .ref (o + 3), .ref (o + 4), .ref (o + 5), .ref (o + 6), .ref (o + 7), .ref (o + 8), .ref (o + 9), .ref (o + 10), .ref (o + 11), .ref (o + 12), .int (I 5), .int (I 6), .ref (o + 13), .ref (o + 14), .int (I 7), .int (I 8), .int (I 9), .int (I 10)]
def mr_fi (j : Nat) : Nat := [1, 2, 4, 5, 6, 17, 18, 21, 22, 23, 24].getD j 0
def mr_R (h : pm_H) (o : Nat) (A : Nat → List Int32) (I : Nat → Int32) : Prop := h.1[o]? = some (.inr (.inr (kM, mr_F o I))) ∧ ∀ i, 1 ≤ i → i ≤ 14 → h.1[o + i]? = some (.inl (i == 11, A i)) ∧ (A i).length = mr_n i
theorem mr_F_up {o j : Nat} {I : Nat → Int32} {x : Int32} (hj : j ≤ 10) : (mr_F o I).set (mr_fi j) (.int x) = mr_F o (fr_up I j x) := by
  match j, hj with
  | 0, _ => rfl
  | 1, _ => rfl
  | 2, _ => rfl
  | 3, _ => rfl
  | 4, _ => rfl
  | 5, _ => rfl
  | 6, _ => rfl
  | 7, _ => rfl
  | 8, _ => rfl
  | 9, _ => rfl
  | 10, _ => rfl
  | n + 11, h => omega
section MREF
variable {xs : List Int32} {d m pc : Nat} {L st : List Value} {h h' : pm_H} {o : Nat} {A : Nat → List Int32} {I : Nat → Int32} {Q : Option Value → pm_H → Prop}
theorem mr_R.keep (hb : mr_R h o A I) (e : ∀ k, o ≤ k → k < o + 15 → h'.1[k]? = h.1[k]?) : mr_R h' o A I := ⟨(e o (by omega) (by omega)).trans hb.1, fun i h1 h2 => ⟨(e (o + i) (by omega) (by omega)).trans (hb.2 i h1 h2).1, (hb.2 i h1 h2).2⟩⟩
theorem mr_R.ag {lo hi : Nat} (hb : mr_R h o A I) (e : fr_ag lo hi h h') (hd : o + 15 ≤ lo ∨ hi ≤ o) : mr_R h' o A I := hb.keep fun k _ _ => e.2.2 k (by omega)
theorem mr_R.len (hb : mr_R h o A I) {i : Nat} (h1 : Nat.ble 1 i = true) (h2 : Nat.ble i 14 = true) : (A i).length = mr_n i := (hb.2 i (fr_ble h1) (fr_ble h2)).2
theorem mr_n_lt {i k : Nat} (h2 : i ≤ 14) (hk : k < mr_n i) : mr_n i < 2 ^ 31 := by
  have : ∀ i, i < 15 → mr_n i < 2 ^ 31 := by decide
  exact this i (by omega)
theorem mr_ld {i k nx tg : Nat} (hb : mr_R h o A I) (hi : pm_ins m pc = some (.iaload, nx, tg)) (h1 : Nat.ble 1 i = true) (h2 : Nat.ble i 14 = true) (h3 : (i == 11) = false) (hk : k < mr_n i) (kk : pm_W xs d m nx L (.int ((A i).getD k 0) :: st) h Q) : pm_W xs d m pc L (.int (nI k) :: .ref (o + i) :: st) h Q := by
  obtain ⟨e1, e2⟩ := hb.2 i (fr_ble h1) (fr_ble h2)
  rw [h3] at e1
  exact pm_W.iald hi e1 (pm_ix_ok (by rw [e2]; exact hk) (by rw [e2]; exact mr_n_lt (fr_ble h2) hk)) kk
theorem mr_ldz {k nx tg : Nat} (hb : mr_R h o A I) (hi : pm_ins m pc = some (.baload, nx, tg)) (hk : k < 4) (kk : pm_W xs d m nx L (.int ((A 11).getD k 0) :: st) h Q) : pm_W xs d m pc L (.int (nI k) :: .ref (o + 11) :: st) h Q := by
  obtain ⟨e1, e2⟩ := hb.2 11 (by omega) (by omega)
  have e2 : (A 11).length = 4 := e2
  exact pm_W.bald hi e1 (pm_ix_ok (by rw [e2]; exact hk) (by rw [e2]; omega)) kk
theorem mr_R.set {i k : Nat} {x : Int32} (hb : mr_R h o A I) (h1 : 1 ≤ i) (h2 : i ≤ 14) : mr_R (h.1.set (o + i) (.inl (i == 11, (A i).set k x)), h.2) o (fr_up A i ((A i).set k x)) I := by
  refine ⟨fr_ne hb.1 (by omega), fun j g1 g2 => ?_⟩
  by_cases e : j = i
  · subst e
    rw [fr_up_s]
    exact ⟨fr_set (hb.2 j g1 g2).1, by rw [List.length_set]; exact (hb.2 j g1 g2).2⟩
  · rw [fr_up_n e]
    exact ⟨fr_ne (hb.2 j g1 g2).1 (by omega), (hb.2 j g1 g2).2⟩
theorem mr_st {i k nx tg : Nat} {x : Int32} (hb : mr_R h o A I) (hi : pm_ins m pc = some (.iastore, nx, tg)) (h1 : Nat.ble 1 i = true) (h2 : Nat.ble i 14 = true) (h3 : (i == 11) = false) (hk : k < mr_n i) (kk : ∀ g : pm_H, mr_R g o (fr_up A i ((A i).set k x)) I → fr_ag o (o + 15) h g → pm_W xs d m nx L st g Q) : pm_W xs d m pc L (.int x :: .int (nI k) :: .ref (o + i) :: st) h Q := by
  have hs := hb.set (k := k) (x := x) (fr_ble h1) (fr_ble h2)
  obtain ⟨e1, e2⟩ := hb.2 i (fr_ble h1) (fr_ble h2)
  rw [h3] at e1 hs
  have b2 := fr_ble h2
  exact pm_W.iast hi e1 (pm_ix_ok (by rw [e2]; exact hk) (by rw [e2]; exact mr_n_lt b2 hk)) (kk _ hs (fr_agset (by omega) (by omega)))
theorem mr_stz {k nx tg : Nat} {x : Int32} (hb : mr_R h o A I) (hi : pm_ins m pc = some (.bastore, nx, tg)) (hk : k < 4) (hx : (x == 0 || x == 1) = true) (kk : ∀ g : pm_H, mr_R g o (fr_up A 11 ((A 11).set k x)) I → fr_ag o (o + 15) h g → pm_W xs d m nx L st g Q) : pm_W xs d m pc L (.int x :: .int (nI k) :: .ref (o + 11) :: st) h Q := by
  have hs := hb.set (i := 11) (k := k) (x := x) (by omega) (by omega)
  obtain ⟨e1, e2⟩ := hb.2 11 (by omega) (by omega)
  have e2 : (A 11).length = 4 := e2
  exact pm_W.bast hi e1 (pm_ix_ok (by rw [e2]; exact hk) (by rw [e2]; omega)) hx (kk _ hs (fr_agset (by omega) (by omega)))
theorem mr_pt {idx nx tg : Nat} {x : Int32} (j : Nat) (hb : mr_R h o A I) (hi : pm_ins m pc = some (.putfield idx, nx, tg)) (hf : pm_fld (pm_own m) idx = some (kM, mr_fi j)) (hj : Nat.ble j 10 = true) (hok : pm_ok (pm_fty kM (mr_fi j)) (.int x) = true) (hfin : pm_fin kM (mr_fi j) = false ∨ (pm_init m = true ∧ pm_own m = kM)) (kk : ∀ g : pm_H, mr_R g o A (fr_up I j x) → fr_ag o (o + 15) h g → pm_W xs d m nx L st g Q) : pm_W xs d m pc L (.int x :: .ref o :: st) h Q := by
  have hj' := fr_ble hj
  have hl : mr_fi j < 25 := by
    have : ∀ j, j < 11 → mr_fi j < 25 := by decide
    exact this j (by omega)
  refine pm_W.putF hi hf hb.1 hl hok hfin (fun g e1 e2 => kk g ⟨?_, fun i g1 g2 => ⟨e2.at (by omega) (hb.2 i g1 g2).1, (hb.2 i g1 g2).2⟩⟩ (e2.wide (Nat.le_refl _) (by omega)))
  rw [mr_F_up hj'] at e1
  exact e1
def mr_A0 : Nat → List Int32 := fun i => List.replicate (mr_n i) 0
def mr_I0 (z : cz_N) : Nat → Int32 := fr_up (fr_up (fr_up (fun _ => 0) 2 (nI z.1)) 3 (nI z.2.1)) 4 (nI z.2.2)
theorem ct_M_init {l m o' : Int32} (hr : h.1[o]? = some (.inr (.inr (kM, [.null, .int 0, .int 0, .null, .int 0, .int 0, .int 0, .null, .null, .null, .null, .null, .null, .null, .null, .null, .null, .int 0, .int 0, .null, .null, .int 0, .int 0, .int 0, .int 0])))) (hl : h.1.length = o + 1)
    (k : ∀ h' : pm_H, mr_R h' o mr_A0 (mr_I0 (cz_mk l m o')) → fr_new o 14 2789 h h' → Q none h') : pm_X xs 0 mM_init [.ref o, .int l, .int m, .int o'] h Q := by
  unfold pm_X
  (repeat (first | refine pm_W.ts rfl rfl ?_ | refine pm_W.tl rfl rfl ?_))
  refine pm_W.obj rfl rfl rfl rfl ?_
  (repeat (first | refine pm_W.ts rfl rfl ?_ | refine pm_W.tl rfl rfl ?_))
  refine pm_W.newaF (n := 1952) rfl hl (by omega) (fun u1 p1 e1 => ?_)
  have o1 := (e1.2.2 o (by omega)).trans hr
  refine pm_W.putF rfl rfl o1 (fr_ble rfl) rfl (Or.inr ⟨rfl, rfl⟩) (fun g1 q1 w1 => ?_)
  have s1 := (fr_mk.N (a := o) e1).tr (fr_mk.A (p := o + 2) w1) (by omega)
  replace p1 := w1.at (by omega) p1
  have l1 : g1.1.length = o + 2 := by have := s1.1; omega
  (repeat (first | refine pm_W.ts rfl rfl ?_ | refine pm_W.tl rfl rfl ?_))
  refine pm_W.newaF (n := 2) rfl l1 (by omega) (fun u2 p2 e2 => ?_)
  have o2 := (e2.2.2 o (by omega)).trans q1
  refine pm_W.putF rfl rfl o2 (fr_ble rfl) rfl (Or.inr ⟨rfl, rfl⟩) (fun g2 q2 w2 => ?_)
  have s2 := (fr_mk.N (a := o) e2).tr (fr_mk.A (p := o + 3) w2) (by omega)
  replace p2 := w2.at (by omega) p2
  have l2 : g2.1.length = o + 3 := by have := s2.1; omega
  (repeat (first | refine pm_W.ts rfl rfl ?_ | refine pm_W.tl rfl rfl ?_))
  refine pm_W.newaF (n := 20) rfl l2 (by omega) (fun u3 p3 e3 => ?_)
  have o3 := (e3.2.2 o (by omega)).trans q2
  refine pm_W.putF rfl rfl o3 (fr_ble rfl) rfl (Or.inr ⟨rfl, rfl⟩) (fun g3 q3 w3 => ?_)
  have s3 := (fr_mk.N (a := o) e3).tr (fr_mk.A (p := o + 4) w3) (by omega)
  replace p3 := w3.at (by omega) p3
  have l3 : g3.1.length = o + 4 := by have := s3.1; omega
  (repeat (first | refine pm_W.ts rfl rfl ?_ | refine pm_W.tl rfl rfl ?_))
  refine pm_W.newaF (n := 20) rfl l3 (by omega) (fun u4 p4 e4 => ?_)
  have o4 := (e4.2.2 o (by omega)).trans q3
  refine pm_W.putF rfl rfl o4 (fr_ble rfl) rfl (Or.inr ⟨rfl, rfl⟩) (fun g4 q4 w4 => ?_)
  have s4 := (fr_mk.N (a := o) e4).tr (fr_mk.A (p := o + 5) w4) (by omega)
  replace p4 := w4.at (by omega) p4
  have l4 : g4.1.length = o + 5 := by have := s4.1; omega
  (repeat (first | refine pm_W.ts rfl rfl ?_ | refine pm_W.tl rfl rfl ?_))
  refine pm_W.newaF (n := 20) rfl l4 (by omega) (fun u5 p5 e5 => ?_)
  have o5 := (e5.2.2 o (by omega)).trans q4
  refine pm_W.putF rfl rfl o5 (fr_ble rfl) rfl (Or.inr ⟨rfl, rfl⟩) (fun g5 q5 w5 => ?_)
  have s5 := (fr_mk.N (a := o) e5).tr (fr_mk.A (p := o + 6) w5) (by omega)
  replace p5 := w5.at (by omega) p5
  have l5 : g5.1.length = o + 6 := by have := s5.1; omega
  (repeat (first | refine pm_W.ts rfl rfl ?_ | refine pm_W.tl rfl rfl ?_))
  refine pm_W.newaF (n := 320) rfl l5 (by omega) (fun u6 p6 e6 => ?_)
  have o6 := (e6.2.2 o (by omega)).trans q5
  refine pm_W.putF rfl rfl o6 (fr_ble rfl) rfl (Or.inr ⟨rfl, rfl⟩) (fun g6 q6 w6 => ?_)
  have s6 := (fr_mk.N (a := o) e6).tr (fr_mk.A (p := o + 7) w6) (by omega)
  replace p6 := w6.at (by omega) p6
  have l6 : g6.1.length = o + 7 := by have := s6.1; omega
  (repeat (first | refine pm_W.ts rfl rfl ?_ | refine pm_W.tl rfl rfl ?_))
  refine pm_W.newaF (n := 7) rfl l6 (by omega) (fun u7 p7 e7 => ?_)
  have o7 := (e7.2.2 o (by omega)).trans q6
  refine pm_W.putF rfl rfl o7 (fr_ble rfl) rfl (Or.inr ⟨rfl, rfl⟩) (fun g7 q7 w7 => ?_)
  have s7 := (fr_mk.N (a := o) e7).tr (fr_mk.A (p := o + 8) w7) (by omega)
  replace p7 := w7.at (by omega) p7
  have l7 : g7.1.length = o + 8 := by have := s7.1; omega
  (repeat (first | refine pm_W.ts rfl rfl ?_ | refine pm_W.tl rfl rfl ?_))
  refine pm_W.newaF (n := 112) rfl l7 (by omega) (fun u8 p8 e8 => ?_)
  have o8 := (e8.2.2 o (by omega)).trans q7
  refine pm_W.putF rfl rfl o8 (fr_ble rfl) rfl (Or.inr ⟨rfl, rfl⟩) (fun g8 q8 w8 => ?_)
  have s8 := (fr_mk.N (a := o) e8).tr (fr_mk.A (p := o + 9) w8) (by omega)
  replace p8 := w8.at (by omega) p8
  have l8 : g8.1.length = o + 9 := by have := s8.1; omega
  (repeat (first | refine pm_W.ts rfl rfl ?_ | refine pm_W.tl rfl rfl ?_))
  refine pm_W.newaF (n := 112) rfl l8 (by omega) (fun u9 p9 e9 => ?_)
  have o9 := (e9.2.2 o (by omega)).trans q8
  refine pm_W.putF rfl rfl o9 (fr_ble rfl) rfl (Or.inr ⟨rfl, rfl⟩) (fun g9 q9 w9 => ?_)
  have s9 := (fr_mk.N (a := o) e9).tr (fr_mk.A (p := o + 10) w9) (by omega)
  replace p9 := w9.at (by omega) p9
  have l9 : g9.1.length = o + 10 := by have := s9.1; omega
  (repeat (first | refine pm_W.ts rfl rfl ?_ | refine pm_W.tl rfl rfl ?_))
  refine pm_W.newaF (n := 112) rfl l9 (by omega) (fun u10 p10 e10 => ?_)
  have o10 := (e10.2.2 o (by omega)).trans q9
  refine pm_W.putF rfl rfl o10 (fr_ble rfl) rfl (Or.inr ⟨rfl, rfl⟩) (fun g10 q10 w10 => ?_)
  have s10 := (fr_mk.N (a := o) e10).tr (fr_mk.A (p := o + 11) w10) (by omega)
  replace p10 := w10.at (by omega) p10
  have l10 : g10.1.length = o + 11 := by have := s10.1; omega
  (repeat (first | refine pm_W.ts rfl rfl ?_ | refine pm_W.tl rfl rfl ?_))
  refine pm_W.newzF (n := 4) rfl l10 (by omega) (fun u11 p11 e11 => ?_)
  have o11 := (e11.2.2 o (by omega)).trans q10
  refine pm_W.putF rfl rfl o11 (fr_ble rfl) rfl (Or.inr ⟨rfl, rfl⟩) (fun g11 q11 w11 => ?_)
  have s11 := (fr_mk.N (a := o) e11).tr (fr_mk.A (p := o + 12) w11) (by omega)
  replace p11 := w11.at (by omega) p11
  have l11 : g11.1.length = o + 12 := by have := s11.1; omega
  (repeat (first | refine pm_W.ts rfl rfl ?_ | refine pm_W.tl rfl rfl ?_))
  refine pm_W.newaF (n := 16) rfl l11 (by omega) (fun u12 p12 e12 => ?_)
  have o12 := (e12.2.2 o (by omega)).trans q11
  refine pm_W.putF rfl rfl o12 (fr_ble rfl) rfl (Or.inr ⟨rfl, rfl⟩) (fun g12 q12 w12 => ?_)
  have s12 := (fr_mk.N (a := o) e12).tr (fr_mk.A (p := o + 13) w12) (by omega)
  replace p12 := w12.at (by omega) p12
  have l12 : g12.1.length = o + 13 := by have := s12.1; omega
  (repeat (first | refine pm_W.ts rfl rfl ?_ | refine pm_W.tl rfl rfl ?_))
  refine pm_W.newaF (n := 46) rfl l12 (by omega) (fun u13 p13 e13 => ?_)
  have o13 := (e13.2.2 o (by omega)).trans q12
  refine pm_W.putF rfl rfl o13 (fr_ble rfl) rfl (Or.inr ⟨rfl, rfl⟩) (fun g13 q13 w13 => ?_)
  have s13 := (fr_mk.N (a := o) e13).tr (fr_mk.A (p := o + 14) w13) (by omega)
  replace p13 := w13.at (by omega) p13
  have l13 : g13.1.length = o + 14 := by have := s13.1; omega
  (repeat (first | refine pm_W.ts rfl rfl ?_ | refine pm_W.tl rfl rfl ?_))
  refine pm_W.newaF (n := 46) rfl l13 (by omega) (fun u14 p14 e14 => ?_)
  have o14 := (e14.2.2 o (by omega)).trans q13
  refine pm_W.putF rfl rfl o14 (fr_ble rfl) rfl (Or.inr ⟨rfl, rfl⟩) (fun g14 q14 w14 => ?_)
  have s14 := (fr_mk.N (a := o) e14).tr (fr_mk.A (p := o + 15) w14) (by omega)
  replace p14 := w14.at (by omega) p14
  have l14 : g14.1.length = o + 15 := by have := s14.1; omega
  have t14 := s14
  have t13 := s13.tr t14 (by omega)
  have t12 := s12.tr t13 (by omega)
  have t11 := s11.tr t12 (by omega)
  have t10 := s10.tr t11 (by omega)
  have t9 := s9.tr t10 (by omega)
  have t8 := s8.tr t9 (by omega)
  have t7 := s7.tr t8 (by omega)
  have t6 := s6.tr t7 (by omega)
  have t5 := s5.tr t6 (by omega)
  have t4 := s4.tr t5 (by omega)
  have t3 := s3.tr t4 (by omega)
  have t2 := s2.tr t3 (by omega)
  have t1 := s1.tr t2 (by omega)
  have hR : mr_R g14 o mr_A0 (fun _ => 0) := by
    refine ⟨q14, fun i h1 h2 => ⟨?_, List.length_replicate⟩⟩
    match i, h1, h2 with
    | 0, h1, _ => omega
    | 1, _, _ => exact t2.at (by omega) (by omega) p1
    | 2, _, _ => exact t3.at (by omega) (by omega) p2
    | 3, _, _ => exact t4.at (by omega) (by omega) p3
    | 4, _, _ => exact t5.at (by omega) (by omega) p4
    | 5, _, _ => exact t6.at (by omega) (by omega) p5
    | 6, _, _ => exact t7.at (by omega) (by omega) p6
    | 7, _, _ => exact t8.at (by omega) (by omega) p7
    | 8, _, _ => exact t9.at (by omega) (by omega) p8
    | 9, _, _ => exact t10.at (by omega) (by omega) p9
    | 10, _, _ => exact t11.at (by omega) (by omega) p10
    | 11, _, _ => exact t12.at (by omega) (by omega) p11
    | 12, _, _ => exact t13.at (by omega) (by omega) p12
    | 13, _, _ => exact t14.at (by omega) (by omega) p13
    | 14, _, _ => exact p14
    | n + 15, _, h => omega
  have hN := t1.new (by omega)
  have fin : ∀ (x1 x2 x3 : Int32) (g1 g2 : pm_H), cz_mk l m o' = (x1.toNatClampNeg, x2.toNatClampNeg, x3.toNatClampNeg) → 0 ≤ x1 → 0 ≤ x2 → 0 ≤ x3 → fr_ag o (o + 15) g14 g2 → mr_R g2 o mr_A0 (fr_up (fr_up (fr_up (fun _ => 0) 2 x1) 3 x2) 4 x3) → Q none g2 := by
    intro x1 x2 x3 g1 g2 e z1 z2 z3 hag hR2
    refine k g2 ?_ ?_
    · rw [e]
      show mr_R g2 o mr_A0 (fr_up (fr_up (fr_up (fun _ => 0) 2 (nI x1.toNatClampNeg)) 3 (nI x2.toNatClampNeg)) 4 (nI x3.toNatClampNeg))
      rw [fr_clamp z1, fr_clamp z2, fr_clamp z3]
      exact hR2
    · exact ⟨by rw [hag.2.1]; exact hN.1, by rw [hag.1]; exact hN.2.1, fun k hk => (hag.2.2 k (by omega)).trans (hN.2.2 k hk)⟩
  have tail1 : (8 ≤ l ∧ l ≤ m ∧ m ≤ o' ∧ o' ≤ 32) → pm_W xs 0 mM_init 143 (pm_entry [.ref o, .int l, .int m, .int o'] (pm_maxL mM_init)) [.int 1] g14 Q := by
    intro c
    have e : cz_mk l m o' = (l.toNatClampNeg, m.toNatClampNeg, o'.toNatClampNeg) := if_pos c
    obtain ⟨c1, c2, c3, c4⟩ := c
    have d1 : nI 8 ≤ l := c1
    have z1 : 0 ≤ l := by rw [fr_le] at d1 ⊢; rw [fr_32 8 (by omega)] at d1; rw [fr_0]; omega
    have z2 : 0 ≤ m := by rw [fr_le] at z1 c2 ⊢; omega
    have z3 : 0 ≤ o' := by rw [fr_le] at z2 c3 ⊢; omega
    (repeat (first | refine pm_W.ts rfl rfl ?_ | refine pm_W.tl rfl rfl ?_))
    refine pm_W.ifz rfl (fun z => absurd (show (1 : Int32) = 0 from z) (by decide)) (fun _ => ?_)
    (repeat (first | refine pm_W.ts rfl rfl ?_ | refine pm_W.tl rfl rfl ?_))
    refine pm_W.goto rfl ?_
    refine mr_pt 2 hR rfl rfl rfl rfl (Or.inr ⟨rfl, rfl⟩) (fun g1 r1 e1 => ?_)
    (repeat (first | refine pm_W.ts rfl rfl ?_ | refine pm_W.tl rfl rfl ?_))
    refine pm_W.ifz rfl (fun z => absurd (show (1 : Int32) = 0 from z) (by decide)) (fun _ => ?_)
    (repeat (first | refine pm_W.ts rfl rfl ?_ | refine pm_W.tl rfl rfl ?_))
    refine pm_W.goto rfl ?_
    refine mr_pt 3 r1 rfl rfl rfl rfl (Or.inr ⟨rfl, rfl⟩) (fun g2 r2 e2 => ?_)
    (repeat (first | refine pm_W.ts rfl rfl ?_ | refine pm_W.tl rfl rfl ?_))
    refine pm_W.ifz rfl (fun z => absurd (show (1 : Int32) = 0 from z) (by decide)) (fun _ => ?_)
    (repeat (first | refine pm_W.ts rfl rfl ?_ | refine pm_W.tl rfl rfl ?_))
    refine pm_W.goto rfl ?_
    refine mr_pt 4 r2 rfl rfl rfl rfl (Or.inr ⟨rfl, rfl⟩) (fun g3 r3 e3 => ?_)
    exact pm_W.ret rfl rfl (fin l m o' g3 g3 e z1 z2 z3 ((e1.tr e2).tr e3) r3)
  have tail0 : ¬ (8 ≤ l ∧ l ≤ m ∧ m ≤ o' ∧ o' ≤ 32) → pm_W xs 0 mM_init 142 (pm_entry [.ref o, .int l, .int m, .int o'] (pm_maxL mM_init)) [] g14 Q := by
    intro c
    have e : cz_mk l m o' = ((nI 8).toNatClampNeg, (nI 12).toNatClampNeg, (nI 24).toNatClampNeg) := if_neg c
    (repeat (first | refine pm_W.ts rfl rfl ?_ | refine pm_W.tl rfl rfl ?_))
    refine pm_W.ifz rfl (fun _ => ?_) (fun z => absurd (show (0 : Int32) = 0 from rfl) z)
    (repeat (first | refine pm_W.ts rfl rfl ?_ | refine pm_W.tl rfl rfl ?_))
    refine mr_pt 2 hR rfl rfl rfl rfl (Or.inr ⟨rfl, rfl⟩) (fun g1 r1 e1 => ?_)
    (repeat (first | refine pm_W.ts rfl rfl ?_ | refine pm_W.tl rfl rfl ?_))
    refine pm_W.ifz rfl (fun _ => ?_) (fun z => absurd (show (0 : Int32) = 0 from rfl) z)
    (repeat (first | refine pm_W.ts rfl rfl ?_ | refine pm_W.tl rfl rfl ?_))
    refine mr_pt 3 r1 rfl rfl rfl rfl (Or.inr ⟨rfl, rfl⟩) (fun g2 r2 e2 => ?_)
    (repeat (first | refine pm_W.ts rfl rfl ?_ | refine pm_W.tl rfl rfl ?_))
    refine pm_W.ifz rfl (fun _ => ?_) (fun z => absurd (show (0 : Int32) = 0 from rfl) z)
    (repeat (first | refine pm_W.ts rfl rfl ?_ | refine pm_W.tl rfl rfl ?_))
    refine mr_pt 4 r2 rfl rfl rfl rfl (Or.inr ⟨rfl, rfl⟩) (fun g3 r3 e3 => ?_)
    exact pm_W.ret rfl rfl (fin (nI 8) (nI 12) (nI 24) g3 g3 e (by decide) (by decide) (by decide) ((e1.tr e2).tr e3) r3)
  (repeat (first | refine pm_W.ts rfl rfl ?_ | refine pm_W.tl rfl rfl ?_))
  refine pm_W.icmp rfl (fun c => tail0 (fun z => Int32.not_le.mpr c z.1)) (fun c1 => ?_)
  (repeat (first | refine pm_W.ts rfl rfl ?_ | refine pm_W.tl rfl rfl ?_))
  refine pm_W.icmp rfl (fun c => tail0 (fun z => Int32.not_le.mpr c z.2.1)) (fun c2 => ?_)
  (repeat (first | refine pm_W.ts rfl rfl ?_ | refine pm_W.tl rfl rfl ?_))
  refine pm_W.icmp rfl (fun c => tail0 (fun z => Int32.not_le.mpr c z.2.2.1)) (fun c3 => ?_)
  (repeat (first | refine pm_W.ts rfl rfl ?_ | refine pm_W.tl rfl rfl ?_))
  refine pm_W.icmp rfl (fun c => tail0 (fun z => Int32.not_le.mpr c z.2.2.2)) (fun c4 => ?_)
  (repeat (first | refine pm_W.ts rfl rfl ?_ | refine pm_W.tl rfl rfl ?_))
  refine pm_W.goto rfl ?_
  exact tail1 ⟨fr_nlt c1, fr_nlt c2, fr_nlt c3, fr_nlt c4⟩
end MREF
