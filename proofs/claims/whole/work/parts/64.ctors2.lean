def fr_mk (a p n m : Nat) (h g : pm_H) : Prop := g.1.length = h.1.length + n ∧ g.2 = h.2 + m ∧ ∀ k, k ≠ a → k < p → g.1[k]? = h.1[k]?
theorem fr_mk.N {a p n m : Nat} {h g : pm_H} (x : fr_new p n m h g) : fr_mk a p n m h g := ⟨x.1, x.2.1, fun k _ hk => x.2.2 k hk⟩
theorem fr_mk.A {a p : Nat} {h g : pm_H} (x : fr_ag a (a + 1) h g) : fr_mk a p 0 0 h g := ⟨x.2.1, x.1, fun k hk _ => x.2.2 k (by omega)⟩
theorem fr_mk.tr {a p p' n m n' m' : Nat} {h h1 h2 : pm_H} (x : fr_mk a p n m h h1) (y : fr_mk a p' n' m' h1 h2) (hp : p ≤ p') : fr_mk a p (n + n') (m + m') h h2 := ⟨by rw [y.1, x.1]; omega, by rw [y.2.1, x.2.1]; omega, fun k h1 h2 => (y.2.2 k h1 (by omega)).trans (x.2.2 k h1 h2)⟩
theorem fr_mk.low {a p p' n m : Nat} {h g : pm_H} (x : fr_mk a p n m h g) (hp : p' ≤ p) : fr_mk a p' n m h g := ⟨x.1, x.2.1, fun k h1 h2 => x.2.2 k h1 (by omega)⟩
theorem fr_mk.new {a p n m : Nat} {h g : pm_H} (x : fr_mk a p n m h g) (hp : a ≤ p) : fr_new a n m h g := ⟨x.1, x.2.1, fun k hk => x.2.2 k (by omega) (by omega)⟩
theorem fr_mk.at {a p n m k : Nat} {h g : pm_H} {c : pm_C} (x : fr_mk a p n m h g) (h1 : k ≠ a) (h2 : k < p) (e : h.1[k]? = some c) : g.1[k]? = some c := (x.2.2 k h1 h2).trans e
def fr_rw (f : Nat → Nat) (room i : Nat) : List (Option Nat) := (List.range room).map fun j => if j < i then some (f j) else none
theorem fr_rw_at {f : Nat → Nat} {room i j : Nat} (hj : j < room) : (fr_rw f room i)[j]? = some (if j < i then some (f j) else none) := by
  simp [fr_rw, hj]
theorem fr_rw_len {f : Nat → Nat} {room i : Nat} : (fr_rw f room i).length = room := by simp [fr_rw]
theorem fr_rw_0 {f : Nat → Nat} {room : Nat} : fr_rw f room 0 = List.replicate room none := by
  apply List.ext_getElem?
  intro j
  by_cases hj : j < room
  · rw [fr_rw_at hj, if_neg (by omega), List.getElem?_replicate, if_pos hj]
  · rw [List.getElem?_eq_none (by rw [fr_rw_len]; omega), List.getElem?_eq_none (by rw [List.length_replicate]; omega)]
theorem fr_rw_1 {f : Nat → Nat} {room i : Nat} (hi : i < room) : (fr_rw f room i).set i (some (f i)) = fr_rw f room (i + 1) := by
  apply List.ext_getElem?
  intro j
  by_cases hj : j < room
  · by_cases e : i = j
    · subst e
      rw [List.getElem?_set_self (by rw [fr_rw_len]; exact hi), fr_rw_at hj, if_pos (by omega)]
    · rw [List.getElem?_set_ne e, fr_rw_at hj, fr_rw_at hj]
      by_cases c : j < i
      · rw [if_pos c, if_pos (by omega)]
      · rw [if_neg c, if_neg (by omega)]
  · rw [List.getElem?_eq_none (by rw [List.length_set, fr_rw_len]; omega), List.getElem?_eq_none (by rw [fr_rw_len]; omega)]
section MKR
variable {xs : List Int32} {d m pc : Nat} {L st : List Value} {h : pm_H} {Q : Option Value → pm_H → Prop}
theorem pm_W.newaF {nx tg p n : Nat} (hi : pm_ins m pc = some (.newarray .int, nx, tg)) (hl : h.1.length = p) (hn : n ≤ 60000) (kk : ∀ g : pm_H, g.1[p]? = some (.inl (false, List.replicate n 0)) → fr_new p 1 n h g → pm_W xs d m nx L (.ref p :: st) g Q) : pm_W xs d m pc L (.int (nI n) :: st) h Q := by
  refine pm_W.newa hi (nI_pos (by omega)) (by rw [nI_clamp (by omega)]; omega) ?_
  rw [nI_clamp (by omega)]
  subst hl
  exact kk _ fr_push_at (fr_new_push (Nat.le_refl _))
theorem pm_W.newzF {nx tg p n : Nat} (hi : pm_ins m pc = some (.newarray .boolean, nx, tg)) (hl : h.1.length = p) (hn : n ≤ 60000) (kk : ∀ g : pm_H, g.1[p]? = some (.inl (true, List.replicate n 0)) → fr_new p 1 n h g → pm_W xs d m nx L (.ref p :: st) g Q) : pm_W xs d m pc L (.int (nI n) :: st) h Q := by
  refine pm_W.newz hi (nI_pos (by omega)) (by rw [nI_clamp (by omega)]; omega) ?_
  rw [nI_clamp (by omega)]
  subst hl
  exact kk _ fr_push_at (fr_new_push (Nat.le_refl _))
theorem pm_W.anewF {idx nx tg p n t : Nat} (hi : pm_ins m pc = some (.anewarray idx, nx, tg)) (hf : pm_anew (pm_own m) idx = some t) (hl : h.1.length = p) (hn : n ≤ 60000) (kk : ∀ g : pm_H, g.1[p]? = some (.inr (.inl (t, List.replicate n none))) → fr_new p 1 n h g → pm_W xs d m nx L (.ref p :: st) g Q) : pm_W xs d m pc L (.int (nI n) :: st) h Q := by
  refine pm_W.anew hi hf (nI_pos (by omega)) (by rw [nI_clamp (by omega)]; omega) ?_
  rw [nI_clamp (by omega)]
  subst hl
  exact kk _ fr_push_at (fr_new_push (Nat.le_refl _))
theorem pm_W.newF {idx nx tg p : Nat} {q : Nat × List Value} (hi : pm_ins m pc = some (.new idx, nx, tg)) (hf : pm_new (pm_own m) idx = some q) (hl : h.1.length = p) (kk : ∀ g : pm_H, g.1[p]? = some (.inr (.inr q)) → fr_new p 1 q.2.length h g → pm_W xs d m nx L (.ref p :: st) g Q) : pm_W xs d m pc L st h Q := by
  refine pm_W.new hi hf ?_
  subst hl
  exact kk _ fr_push_at (fr_new_push (Nat.le_refl _))
theorem pm_W.putF {idx nx tg a c k : Nat} {fs : List Value} {v : Value} (hi : pm_ins m pc = some (.putfield idx, nx, tg)) (hf : pm_fld (pm_own m) idx = some (c, k)) (ha : h.1[a]? = some (.inr (.inr (c, fs)))) (hl : k < fs.length) (hok : pm_ok (pm_fty c k) v = true) (hfin : pm_fin c k = false ∨ (pm_init m = true ∧ pm_own m = c))
    (kk : ∀ g : pm_H, g.1[a]? = some (.inr (.inr (c, fs.set k v))) → fr_ag a (a + 1) h g → pm_W xs d m nx L st g Q) : pm_W xs d m pc L (v :: .ref a :: st) h Q :=
  pm_W.put hi hf ha hl hok hfin (kk _ (fr_set ha) (fr_agset (Nat.le_refl _) (Nat.lt_succ_self _)))
end MKR
section CTORS2
variable {xs : List Int32} {h : pm_H} {a : Nat} {Q : Option Value → pm_H → Prop}
theorem ct_S_init (hr : h.1[a]? = some (.inr (.inr (kS, [.null, .null])))) (hl : h.1.length = a + 1) (k : ∀ h' : pm_H, sd_R h' a [] [] → fr_new a 5 152 h h' → Q none h') : pm_X xs 1 mS_init [.ref a] h Q := by
  unfold pm_X
  (repeat (first | refine pm_W.ts rfl rfl ?_ | refine pm_W.tl rfl rfl ?_))
  refine pm_W.obj rfl rfl rfl rfl ?_
  (repeat (first | refine pm_W.ts rfl rfl ?_ | refine pm_W.tl rfl rfl ?_))
  refine pm_W.newF rfl rfl hl (fun g1 p1 e1 => ?_)
  (repeat (first | refine pm_W.ts rfl rfl ?_ | refine pm_W.tl rfl rfl ?_))
  refine pm_W.callI (d' := 0) (as := [.int (nI 117)]) rfl rfl rfl rfl (fr_ble rfl) p1 (fr_ble rfl) (ct_B_init (room := 117) p1 (by rw [e1.1, hl]) (by omega) (fun g2 r2 e2 => ?_))
  have o2 := ((e1.tr e2).2.2 a (by omega)).trans hr
  refine pm_W.putF rfl rfl o2 (fr_ble rfl) rfl (Or.inr ⟨rfl, rfl⟩) (fun g3 o3 e3 => ?_)
  have s1 := (fr_mk.N (a := a) (e1.tr e2)).tr (fr_mk.A (p := a + 3) e3) (by omega)
  have l3 : g3.1.length = a + 3 := by have := s1.1; omega
  (repeat (first | refine pm_W.ts rfl rfl ?_ | refine pm_W.tl rfl rfl ?_))
  refine pm_W.newF rfl rfl l3 (fun g4 p4 e4 => ?_)
  (repeat (first | refine pm_W.ts rfl rfl ?_ | refine pm_W.tl rfl rfl ?_))
  refine pm_W.callI (d' := 0) (as := []) rfl rfl rfl rfl (fr_ble rfl) p4 (fr_ble rfl) (ct_P_init p4 (by rw [e4.1, l3]) (fun g5 r5 e5 => ?_))
  have o5 := ((e4.tr e5).2.2 a (by omega)).trans o3
  refine pm_W.putF rfl rfl o5 (fr_ble rfl) rfl (Or.inr ⟨rfl, rfl⟩) (fun g6 o6 e6 => ?_)
  have s2 := (fr_mk.N (a := a) (e4.tr e5)).tr (fr_mk.A (p := a + 6) e6) (by omega)
  exact pm_W.ret rfl rfl (k g6 ⟨o6, r2.keep (fun k _ _ => (s2.2.2 k (by omega) (by omega)).trans (e3.2.2 k (by omega))), r5.keep (fun k _ _ => e6.2.2 k (by omega))⟩ ((s1.tr s2 (by omega)).new (by omega)))
def tr_S0 : tr_S := (2 :: List.replicate 10 0, List.replicate 11 0, none :: List.replicate 10 (some 0), fun _ => [])
theorem tr_S0_ok : tr_ok tr_S0 := by
  refine ⟨rfl, rfl, rfl, fun s => ?_, fun s => ?_, fun s q => ?_⟩
  · unfold tr_K tr_S0
    rcases Nat.lt_or_ge s 11 with c | c
    · have : ∀ s, s < 11 → (2 :: List.replicate 10 0 : List Nat).getD s 0 ≤ 2 := by decide
      exact this s c
    · rw [List.getD_eq_getElem?_getD, List.getElem?_eq_none (by show 11 ≤ s; omega)]
      exact Nat.zero_le _
  · unfold tr_N tr_S0
    rcases Nat.lt_or_ge s 11 with c | c
    · have : ∀ s, s < 11 → (List.replicate 11 0 : List Nat).getD s 0 ≤ 31 := by decide
      exact this s c
    · rw [List.getD_eq_getElem?_getD, List.getElem?_eq_none (by show 11 ≤ s; omega)]
      exact Nat.zero_le _
  · unfold tr_P tr_S0
    rcases Nat.lt_or_ge s 11 with c | c
    · have : ∀ s, s < 11 → (none :: List.replicate 10 (some 0) : List (Option Nat)).getD s none = none ∨ (none :: List.replicate 10 (some 0) : List (Option Nat)).getD s none = some 0 := by decide
      intro e
      rcases this s c with z | z
      · rw [z] at e; cases e
      · rw [z] at e; cases e; omega
    · intro e
      rw [List.getD_eq_getElem?_getD, List.getElem?_eq_none (by show 11 ≤ s; omega)] at e
      cases e
theorem tr_S0_rt : tr_rt tr_S0 := ⟨rfl, rfl, rfl⟩
theorem ct_T_init (hr : h.1[a]? = some (.inr (.inr (kT, [.null, .null, .null, .null])))) (hl : h.1.length = a + 1) (k : ∀ h' : pm_H, tr_R h' a tr_S0 → fr_new a 26 242 h h' → Q none h') : pm_X xs 1 mT_init [.ref a] h Q := by
  have loop : ∀ (r i : Nat) (g : pm_H), i + r = 11 → g.1[a]? = some (.inr (.inr (kT, [.ref (a + 1), .ref (a + 2), .ref (a + 3), .ref (a + 4)]))) → g.1[a + 1]? = some (.inl (false, List.replicate 11 0)) → g.1[a + 2]? = some (.inl (false, List.replicate 11 0)) → g.1[a + 3]? = some (.inl (false, List.replicate 11 0)) → g.1[a + 4]? = some (.inr (.inl (kB, fr_rw (fun j => a + 5 + 2 * j) 11 i))) → (∀ j, j < i → bt_R g (a + 5 + 2 * j) 16 []) → fr_new a (4 + 2 * i) (44 + 18 * i) h g → pm_W xs 1 mT_init 39 [.ref a, .int (nI i)] [] g Q := by
    intro r
    induction r with
    | zero =>
      intro i g hi g1 g2 g3 g4 g5 g6 hfr
      have e : i = 11 := by omega
      subst e
      (repeat (first | refine pm_W.ts rfl rfl ?_ | refine pm_W.tl rfl rfl ?_))
      refine pm_W.icmp rfl (fun c => ?_) (fun c => ?_)
      · (repeat (first | refine pm_W.ts rfl rfl ?_ | refine pm_W.tl rfl rfl ?_ | refine pm_W.get rfl rfl g1 rfl ?_))
        refine pm_W.iast rfl g2 (pm_ix_ok (j := 0) (by rw [List.length_replicate]; omega) (by rw [List.length_replicate]; omega)) ?_
        (iterate 1 (first | refine pm_W.ts rfl rfl ?_ | refine pm_W.tl rfl rfl ?_))
        refine pm_W.get rfl rfl (fr_ne g1 (by omega)) rfl ?_
        (iterate 2 (first | refine pm_W.ts rfl rfl ?_ | refine pm_W.tl rfl rfl ?_))
        refine pm_W.iast rfl (fr_ne g4 (by omega)) (pm_ix_ok (j := 0) (by rw [List.length_replicate]; omega) (by rw [List.length_replicate]; omega)) ?_
        refine pm_W.ret rfl rfl (k _ ⟨fr_ne (fr_ne g1 (by omega)) (by omega), fr_ne (fr_set g2) (by omega), fr_ne (fr_ne g3 (by omega)) (by omega), fr_set (fr_ne g4 (by omega)), ?_, fun s hs => ?_, tr_S0_ok⟩ ?_)
        · refine (fr_ne (fr_ne g5 (by omega)) (by omega)).trans ?_
          have : fr_rw (fun j => a + 5 + 2 * j) 11 11 = tr_row a := by
            apply List.ext_getElem?
            intro j
            by_cases hj : j < 11
            · rw [fr_rw_at hj, if_pos hj]
              simp [tr_row, hj]
            · rw [List.getElem?_eq_none (by rw [fr_rw_len]; omega), List.getElem?_eq_none (by rw [tr_row_len]; omega)]
          rw [this]
        · refine (g6 s hs).keep fun j _ _ => ?_
          show ((g.1.set (a + 1) _).set (a + 3) _)[j]? = _
          rw [List.getElem?_set_ne (by omega), List.getElem?_set_ne (by omega)]
        · have := (hfr.tr (fr_new_set (h := g) (a := a + 1) (c := .inl (false, (List.replicate 11 (0 : Int32)).set 0 2)) (show a ≤ a + 1 by omega))).tr (fr_new_set (a := a + 3) (c := .inl (false, (List.replicate 11 (0 : Int32)).set 0 (-1))) (show a ≤ a + 3 by omega))
          exact this
      · have c : ¬ nI 11 ≤ nI 11 := c
        rw [nI_leI (by omega) (by omega)] at c
        omega
    | succ r ih =>
      intro i g hi g1 g2 g3 g4 g5 g6 hfr
      have hlg : g.1.length = a + 5 + 2 * i := by have := hfr.1; omega
      (repeat (first | refine pm_W.ts rfl rfl ?_ | refine pm_W.tl rfl rfl ?_))
      refine pm_W.icmp rfl (fun c => ?_) (fun c => ?_)
      · have c : nI 11 ≤ nI i := c
        rw [nI_leI (by omega) (by omega)] at c
        omega
      · (repeat (first | refine pm_W.ts rfl rfl ?_ | refine pm_W.tl rfl rfl ?_ | refine pm_W.get rfl rfl g1 rfl ?_))
        refine pm_W.newF rfl rfl hlg (fun u1 p1 e1 => ?_)
        (repeat (first | refine pm_W.ts rfl rfl ?_ | refine pm_W.tl rfl rfl ?_))
        refine pm_W.callI (d' := 0) (as := [.int (nI 16)]) rfl rfl rfl rfl (fr_ble rfl) p1 (fr_ble rfl) (ct_B_init (room := 16) p1 (by rw [e1.1, hlg]) (by omega) (fun u2 r2 e2 => ?_))
        have fall := e1.tr e2
        obtain ⟨ys, v1, -⟩ := id r2
        have q5 := (fall.2.2 (a + 4) (by omega)).trans g5
        refine pm_W.aast rfl q5 v1 (pm_ix_ok (j := i) (by rw [fr_rw_len]; omega) (by rw [fr_rw_len]; omega)) (by decide) ?_
        rw [fr_rw_1 (f := fun j => a + 5 + 2 * j) (by omega)]
        (repeat (first | refine pm_W.ts rfl rfl ?_ | refine pm_W.tl rfl rfl ?_))
        refine pm_W.goto rfl ?_
        rw [fr_inc]
        refine ih (i + 1) _ (by omega) (fr_ne ((fall.2.2 a (by omega)).trans g1) (by omega)) (fr_ne ((fall.2.2 (a + 1) (by omega)).trans g2) (by omega)) (fr_ne ((fall.2.2 (a + 2) (by omega)).trans g3) (by omega)) (fr_ne ((fall.2.2 (a + 3) (by omega)).trans g4) (by omega)) (fr_set q5) (fun j hj => ?_) ?_
        · by_cases e : j = i
          · subst e
            exact r2.keep fun k _ _ => List.getElem?_set_ne (by omega)
          · refine (g6 j (by omega)).keep fun k _ _ => ?_
            show (u2.1.set (a + 4) _)[k]? = _
            rw [List.getElem?_set_ne (by omega)]
            exact fall.2.2 k (by omega)
        · have := (hfr.tr (fall.low (lo' := a) (by omega))).tr (fr_new_set (a := a + 4) (c := .inr (.inl (kB, fr_rw (fun j => a + 5 + 2 * j) 11 (i + 1)))) (show a ≤ a + 4 by omega))
          rw [show 4 + 2 * (i + 1) = 4 + 2 * i + (1 + 1) + 0 by omega, show 44 + 18 * (i + 1) = 44 + 18 * i + (2 + 16) + 0 by omega]
          exact this
  unfold pm_X
  (repeat (first | refine pm_W.ts rfl rfl ?_ | refine pm_W.tl rfl rfl ?_))
  refine pm_W.obj rfl rfl rfl rfl ?_
  (repeat (first | refine pm_W.ts rfl rfl ?_ | refine pm_W.tl rfl rfl ?_))
  refine pm_W.newaF (n := 11) rfl hl (by omega) (fun g1 p1 e1 => ?_)
  have o1 := (e1.2.2 a (by omega)).trans hr
  refine pm_W.putF rfl rfl o1 (fr_ble rfl) rfl (Or.inr ⟨rfl, rfl⟩) (fun g2 o2 e2 => ?_)
  have s1 := (fr_mk.N (a := a) e1).tr (fr_mk.A (p := a + 2) e2) (by omega)
  have p1 := e2.at (by omega) p1
  have l2 : g2.1.length = a + 2 := by have := s1.1; omega
  (repeat (first | refine pm_W.ts rfl rfl ?_ | refine pm_W.tl rfl rfl ?_))
  refine pm_W.newaF (n := 11) rfl l2 (by omega) (fun g3 p3 e3 => ?_)
  have o3 := (e3.2.2 a (by omega)).trans o2
  refine pm_W.putF rfl rfl o3 (fr_ble rfl) rfl (Or.inr ⟨rfl, rfl⟩) (fun g4 o4 e4 => ?_)
  have s2 := (fr_mk.N (a := a) e3).tr (fr_mk.A (p := a + 3) e4) (by omega)
  have p3 := e4.at (by omega) p3
  have l4 : g4.1.length = a + 3 := by have := s2.1; omega
  (repeat (first | refine pm_W.ts rfl rfl ?_ | refine pm_W.tl rfl rfl ?_))
  refine pm_W.newaF (n := 11) rfl l4 (by omega) (fun g5 p5 e5 => ?_)
  have o5 := (e5.2.2 a (by omega)).trans o4
  refine pm_W.putF rfl rfl o5 (fr_ble rfl) rfl (Or.inr ⟨rfl, rfl⟩) (fun g6 o6 e6 => ?_)
  have s3 := (fr_mk.N (a := a) e5).tr (fr_mk.A (p := a + 4) e6) (by omega)
  have p5 := e6.at (by omega) p5
  have l6 : g6.1.length = a + 4 := by have := s3.1; omega
  (repeat (first | refine pm_W.ts rfl rfl ?_ | refine pm_W.tl rfl rfl ?_))
  refine pm_W.anewF (n := 11) rfl rfl l6 (by omega) (fun g7 p7 e7 => ?_)
  have o7 := (e7.2.2 a (by omega)).trans o6
  refine pm_W.putF rfl rfl o7 (fr_ble rfl) rfl (Or.inr ⟨rfl, rfl⟩) (fun g8 o8 e8 => ?_)
  have s4 := (fr_mk.N (a := a) e7).tr (fr_mk.A (p := a + 5) e8) (by omega)
  have p7 := e8.at (by omega) p7
  (iterate 2 (first | refine pm_W.ts rfl rfl ?_ | refine pm_W.tl rfl rfl ?_))
  refine loop 11 0 g8 (by omega) o8 ((s2.tr (s3.tr s4 (by omega)) (by omega)).at (by omega) (by omega) p1) ((s3.tr s4 (by omega)).at (by omega) (by omega) p3) (s4.at (by omega) (by omega) p5) (by rw [fr_rw_0]; exact p7) (fun j hj => by omega) ?_
  exact ((s1.tr (s2.tr (s3.tr s4 (by omega)) (by omega)) (by omega)).new (by omega))
def cz_mk (l m o : Int32) : cz_N := if 8 ≤ l ∧ l ≤ m ∧ m ≤ o ∧ o ≤ 32 then (l.toNatClampNeg, m.toNatClampNeg, o.toNatClampNeg) else (8, 12, 24)
theorem fr_clamp {x : Int32} (h : 0 ≤ x) : nI x.toNatClampNeg = x := by
  obtain ⟨j, hj, e⟩ := fr_nat h
  rw [e, nI_clamp hj]
theorem fr_32 (n : Nat) (hn : n < 2 ^ 31) : (nI n).toInt = (n : Int) := nI_toInt hn
theorem cz_mk_ok {l m o : Int32} : cz_ok (cz_mk l m o) := by
  unfold cz_mk
  split
  · rename_i c
    obtain ⟨c1, c2, c3, c4⟩ := c
    have d1 : nI 8 ≤ l := c1
    have d4 : o ≤ nI 32 := c4
    have z1 : 0 ≤ l := by rw [fr_le] at d1 ⊢; rw [fr_32 8 (by omega)] at d1; rw [fr_0]; omega
    have z2 : 0 ≤ m := by rw [fr_le] at z1 c2 ⊢; omega
    have z3 : 0 ≤ o := by rw [fr_le] at z2 c3 ⊢; omega
    obtain ⟨i, hi, rfl⟩ := fr_nat z1
    obtain ⟨j, hj, rfl⟩ := fr_nat z2
    obtain ⟨k, hk, rfl⟩ := fr_nat z3
    rw [nI_leI (by omega) (by omega)] at d1 c2 c3 d4
    show 8 ≤ (nI i).toNatClampNeg ∧ (nI i).toNatClampNeg ≤ (nI j).toNatClampNeg ∧ (nI j).toNatClampNeg ≤ (nI k).toNatClampNeg ∧ (nI k).toNatClampNeg ≤ 32
    rw [nI_clamp (by omega), nI_clamp (by omega), nI_clamp (by omega)]
    exact ⟨d1, c2, c3, d4⟩
  · exact ⟨by decide, by decide, by decide, by decide⟩
theorem ct_C_init {l m o : Int32} {f1 f2 f3 : Int32} (hr : h.1[a]? = some (.inr (.inr (kC, [.int f1, .int f2, .int f3])))) (k : ∀ h' : pm_H, cz_R h' a (cz_mk l m o) → fr_ag a (a + 1) h h' → Q none h') : pm_X xs 0 mC_init [.ref a, .int l, .int m, .int o] h Q := by
  have tail1 : (8 ≤ l ∧ l ≤ m ∧ m ≤ o ∧ o ≤ 32) → pm_W xs 0 mC_init 31 (pm_entry [.ref a, .int l, .int m, .int o] (pm_maxL mC_init)) [.int 1] h Q := by
    intro c
    have e : cz_mk l m o = (l.toNatClampNeg, m.toNatClampNeg, o.toNatClampNeg) := if_pos c
    obtain ⟨c1, c2, c3, c4⟩ := c
    have d1 : nI 8 ≤ l := c1
    have z1 : 0 ≤ l := by rw [fr_le] at d1 ⊢; rw [fr_32 8 (by omega)] at d1; rw [fr_0]; omega
    have z2 : 0 ≤ m := by rw [fr_le] at z1 c2 ⊢; omega
    have z3 : 0 ≤ o := by rw [fr_le] at z2 c3 ⊢; omega
    (repeat (first | refine pm_W.ts rfl rfl ?_ | refine pm_W.tl rfl rfl ?_))
    refine pm_W.ifz rfl (fun z => absurd (show (1 : Int32) = 0 from z) (by decide)) (fun _ => ?_)
    (repeat (first | refine pm_W.ts rfl rfl ?_ | refine pm_W.tl rfl rfl ?_))
    refine pm_W.goto rfl ?_
    refine pm_W.putF rfl rfl hr (fr_ble rfl) rfl (Or.inr ⟨rfl, rfl⟩) (fun g1 o1 e1 => ?_)
    (repeat (first | refine pm_W.ts rfl rfl ?_ | refine pm_W.tl rfl rfl ?_))
    refine pm_W.ifz rfl (fun z => absurd (show (1 : Int32) = 0 from z) (by decide)) (fun _ => ?_)
    (repeat (first | refine pm_W.ts rfl rfl ?_ | refine pm_W.tl rfl rfl ?_))
    refine pm_W.goto rfl ?_
    refine pm_W.putF rfl rfl o1 (fr_ble rfl) rfl (Or.inr ⟨rfl, rfl⟩) (fun g2 o2 e2 => ?_)
    (repeat (first | refine pm_W.ts rfl rfl ?_ | refine pm_W.tl rfl rfl ?_))
    refine pm_W.ifz rfl (fun z => absurd (show (1 : Int32) = 0 from z) (by decide)) (fun _ => ?_)
    (repeat (first | refine pm_W.ts rfl rfl ?_ | refine pm_W.tl rfl rfl ?_))
    refine pm_W.goto rfl ?_
    refine pm_W.putF rfl rfl o2 (fr_ble rfl) rfl (Or.inr ⟨rfl, rfl⟩) (fun g3 o3 e3 => ?_)
    refine pm_W.ret rfl rfl (k g3 ?_ ((e1.tr e2).tr e3))
    show g3.1[a]? = some (.inr (.inr (kC, [.int (nI (cz_mk l m o).1), .int (nI (cz_mk l m o).2.1), .int (nI (cz_mk l m o).2.2)])))
    rw [e]
    show g3.1[a]? = some (.inr (.inr (kC, [.int (nI l.toNatClampNeg), .int (nI m.toNatClampNeg), .int (nI o.toNatClampNeg)])))
    rw [fr_clamp z1, fr_clamp z2, fr_clamp z3]
    exact o3
  have tail0 : ¬ (8 ≤ l ∧ l ≤ m ∧ m ≤ o ∧ o ≤ 32) → pm_W xs 0 mC_init 30 (pm_entry [.ref a, .int l, .int m, .int o] (pm_maxL mC_init)) [] h Q := by
    intro c
    have e : cz_mk l m o = (8, 12, 24) := if_neg c
    (repeat (first | refine pm_W.ts rfl rfl ?_ | refine pm_W.tl rfl rfl ?_))
    refine pm_W.ifz rfl (fun _ => ?_) (fun z => absurd (show (0 : Int32) = 0 from rfl) z)
    (repeat (first | refine pm_W.ts rfl rfl ?_ | refine pm_W.tl rfl rfl ?_))
    refine pm_W.putF rfl rfl hr (fr_ble rfl) rfl (Or.inr ⟨rfl, rfl⟩) (fun g1 o1 e1 => ?_)
    (repeat (first | refine pm_W.ts rfl rfl ?_ | refine pm_W.tl rfl rfl ?_))
    refine pm_W.ifz rfl (fun _ => ?_) (fun z => absurd (show (0 : Int32) = 0 from rfl) z)
    (repeat (first | refine pm_W.ts rfl rfl ?_ | refine pm_W.tl rfl rfl ?_))
    refine pm_W.putF rfl rfl o1 (fr_ble rfl) rfl (Or.inr ⟨rfl, rfl⟩) (fun g2 o2 e2 => ?_)
    (repeat (first | refine pm_W.ts rfl rfl ?_ | refine pm_W.tl rfl rfl ?_))
    refine pm_W.ifz rfl (fun _ => ?_) (fun z => absurd (show (0 : Int32) = 0 from rfl) z)
    (repeat (first | refine pm_W.ts rfl rfl ?_ | refine pm_W.tl rfl rfl ?_))
    refine pm_W.putF rfl rfl o2 (fr_ble rfl) rfl (Or.inr ⟨rfl, rfl⟩) (fun g3 o3 e3 => ?_)
    refine pm_W.ret rfl rfl (k g3 ?_ ((e1.tr e2).tr e3))
    show g3.1[a]? = some (.inr (.inr (kC, [.int (nI (cz_mk l m o).1), .int (nI (cz_mk l m o).2.1), .int (nI (cz_mk l m o).2.2)])))
    rw [e]
    exact o3
  unfold pm_X
  (repeat (first | refine pm_W.ts rfl rfl ?_ | refine pm_W.tl rfl rfl ?_))
  refine pm_W.obj rfl rfl rfl rfl ?_
  (repeat (first | refine pm_W.ts rfl rfl ?_ | refine pm_W.tl rfl rfl ?_))
  refine pm_W.icmp rfl (fun c => tail0 (fun z => Int32.not_le.mpr c z.1)) (fun c1 => ?_)
  (repeat (first | refine pm_W.ts rfl rfl ?_ | refine pm_W.tl rfl rfl ?_))
  refine pm_W.icmp rfl (fun c => tail0 (fun z => Int32.not_le.mpr c z.2.1)) (fun c2 => ?_)
  (repeat (first | refine pm_W.ts rfl rfl ?_ | refine pm_W.tl rfl rfl ?_))
  refine pm_W.icmp rfl (fun c => tail0 (fun z => Int32.not_le.mpr c z.2.2.1)) (fun c3 => ?_)
  (repeat (first | refine pm_W.ts rfl rfl ?_ | refine pm_W.tl rfl rfl ?_))
  refine pm_W.icmp rfl (fun c => tail0 (fun z => Int32.not_le.mpr c z.2.2.2)) (fun c4 => ?_)
  (repeat (first | refine pm_W.ts rfl rfl ?_ | refine pm_W.tl rfl rfl ?_))
  refine pm_W.goto rfl ?_
  exact tail1 ⟨fr_nlt c1, fr_nlt c2, fr_nlt c3, fr_nlt c4⟩
end CTORS2
