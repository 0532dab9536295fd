def fr_new (lo n m : Nat) (h h' : pm_H) : Prop := h'.1.length = h.1.length + n ∧ h'.2 = h.2 + m ∧ ∀ k, k < lo → h'.1[k]? = h.1[k]?
theorem fr_new.tr {lo n m n' m' : Nat} {h h1 h2 : pm_H} (a : fr_new lo n m h h1) (b : fr_new lo n' m' h1 h2) : fr_new lo (n + n') (m + m') h h2 := ⟨by rw [b.1, a.1]; omega, by rw [b.2.1, a.2.1]; omega, fun k hk => (b.2.2 k hk).trans (a.2.2 k hk)⟩
theorem fr_new.low {lo lo' n m : Nat} {h h1 : pm_H} (a : fr_new lo n m h h1) (hl : lo' ≤ lo) : fr_new lo' n m h h1 := ⟨a.1, a.2.1, fun k hk => a.2.2 k (by omega)⟩
theorem fr_new_push {lo m : Nat} {h : pm_H} {c : pm_C} (hl : lo ≤ h.1.length) : fr_new lo 1 m h (h.1 ++ [c], h.2 + m) := ⟨by simp, rfl, fun k hk => List.getElem?_append_left (by omega)⟩
theorem fr_new_set {lo a : Nat} {h : pm_H} {c : pm_C} (hl : lo ≤ a) : fr_new lo 0 0 h (h.1.set a c, h.2) := ⟨by simp, rfl, fun k hk => List.getElem?_set_ne (by omega)⟩
theorem fr_push_at {h : List pm_C} {c : pm_C} : (h ++ [c])[h.length]? = some c := by simp
theorem fr_push_old {h : List pm_C} {c c0 : pm_C} {k : Nat} (e : h[k]? = some c0) : (h ++ [c])[k]? = some c0 := by
  rw [List.getElem?_append_left (List.getElem?_eq_some_iff.mp e).1]
  exact e
section CTORS
variable {xs : List Int32} {h : pm_H} {a : Nat} {Q : Option Value → pm_H → Prop}
theorem ct_B_init {room : Nat} (hr : h.1[a]? = some (.inr (.inr (kB, [.null, .int 0])))) (hl : h.1.length = a + 1) (hroom : room ≤ 1000) (k : ∀ h' : pm_H, bt_R h' a room [] → fr_new a 1 room h h' → Q none h') : pm_X xs 0 mB_init [.ref a, .int (nI room)] h Q := by
  unfold pm_X
  (repeat (first | refine pm_W.ts rfl rfl ?_ | refine pm_W.tl rfl rfl ?_))
  refine pm_W.obj rfl rfl rfl rfl ?_
  (repeat (first | refine pm_W.ts rfl rfl ?_ | refine pm_W.tl rfl rfl ?_))
  refine pm_W.newa rfl (nI_pos (by omega)) (by rw [nI_clamp (by omega)]; omega) ?_
  rw [nI_clamp (by omega), hl]
  have hr2 := fr_push_old (c := .inl (false, List.replicate room 0)) hr
  refine pm_W.put (v := .ref (a + 1)) rfl rfl hr2 (fr_ble rfl) rfl (Or.inr ⟨rfl, rfl⟩) ?_
  refine pm_W.ret rfl rfl (k _ ⟨List.replicate room 0, fr_set hr2, ?_, by simp, rfl, Nat.zero_le _, hroom⟩ ?_)
  · refine fr_ne ?_ (by omega)
    have := fr_push_at (h := h.1) (c := .inl (false, List.replicate room 0))
    rw [hl] at this
    exact this
  · have h1 := fr_new_push (lo := a) (m := room) (h := h) (c := .inl (false, List.replicate room 0)) (by omega)
    exact h1.tr (fr_new_set (Nat.le_refl _))
theorem ct_P_init (hr : h.1[a]? = some (.inr (.inr (kP, [.null, .null, .int 0])))) (hl : h.1.length = a + 1) (k : ∀ h' : pm_H, pl_R h' a [] → fr_new a 2 30 h h' → Q none h') : pm_X xs 0 mP_init [.ref a] h Q := by
  unfold pm_X
  (repeat (first | refine pm_W.ts rfl rfl ?_ | refine pm_W.tl rfl rfl ?_))
  refine pm_W.obj rfl rfl rfl rfl ?_
  (repeat (first | refine pm_W.ts rfl rfl ?_ | refine pm_W.tl rfl rfl ?_))
  refine pm_W.newa (n := nI 15) rfl (nI_pos (by omega)) (by rw [nI_clamp (by omega)]; omega) ?_
  rw [nI_clamp (by omega), hl]
  have hr2 := fr_push_old (c := .inl (false, List.replicate 15 0)) hr
  have ha1 := fr_push_at (h := h.1) (c := .inl (false, List.replicate 15 0))
  rw [hl] at ha1
  refine pm_W.put (v := .ref (a + 1)) rfl rfl hr2 (fr_ble rfl) rfl (Or.inr ⟨rfl, rfl⟩) ?_
  have f1 : fr_new a 1 15 h ((h.1 ++ ([.inl (false, List.replicate 15 0)] : List pm_C)).set a (.inr (.inr (kP, [.ref (a + 1), .null, .int 0]))), h.2 + 15) := (fr_new_push (by omega)).tr (fr_new_set (Nat.le_refl _))
  have hr3 := fr_set (c := .inr (.inr (kP, [Value.ref (a + 1), .null, .int 0]))) hr2
  have ha2 := fr_ne (c := .inr (.inr (kP, [Value.ref (a + 1), .null, .int 0]))) ha1 (show a ≠ a + 1 by omega)
  generalize hg : (((h.1 ++ ([.inl (false, List.replicate 15 0)] : List pm_C)).set a (.inr (.inr (kP, [Value.ref (a + 1), .null, .int 0]))), h.2 + 15) : pm_H) = g at f1
  have hr3 : g.1[a]? = some (.inr (.inr (kP, [Value.ref (a + 1), .null, .int 0]))) := by rw [← hg]; exact hr3
  have ha2 : g.1[a + 1]? = some (.inl (false, List.replicate 15 0)) := by rw [← hg]; exact ha2
  have hlg : g.1.length = a + 2 := by rw [f1.1, hl]
  show pm_W xs 0 mP_init 12 _ _ (((h.1 ++ ([.inl (false, List.replicate 15 0)] : List pm_C)).set a (.inr (.inr (kP, [Value.ref (a + 1), .null, .int 0]))), h.2 + 15) : pm_H) Q
  rw [hg]
  (repeat (first | refine pm_W.ts rfl rfl ?_ | refine pm_W.tl rfl rfl ?_))
  refine pm_W.newa (n := nI 15) rfl (nI_pos (by omega)) (by rw [nI_clamp (by omega)]; omega) ?_
  rw [nI_clamp (by omega), hlg]
  have hr4 := fr_push_old (c := .inl (false, List.replicate 15 0)) hr3
  have ha3 := fr_push_old (c := .inl (false, List.replicate 15 0)) ha2
  have ha4 := fr_push_at (h := g.1) (c := .inl (false, List.replicate 15 0))
  rw [hlg] at ha4
  refine pm_W.put (v := .ref (a + 2)) rfl rfl hr4 (fr_ble rfl) rfl (Or.inr ⟨rfl, rfl⟩) ?_
  refine pm_W.ret rfl rfl (k _ ⟨List.replicate 15 0, List.replicate 15 0, fr_set hr4, fr_ne ha3 (by omega), fr_ne ha4 (by omega), by simp, by simp, rfl, rfl, Nat.zero_le _⟩ ?_)
  exact f1.tr ((fr_new_push (by omega)).tr (fr_new_set (Nat.le_refl _)))
def kp_rw (a room i : Nat) : List (Option Nat) := (List.range room).map fun j => if j < i then some (a + 3 + 2 * j) else none
theorem kp_rw_at {a room i j : Nat} (hj : j < room) : (kp_rw a room i)[j]? = some (if j < i then some (a + 3 + 2 * j) else none) := by
  simp [kp_rw, hj]
theorem kp_rw_len {a room i : Nat} : (kp_rw a room i).length = room := by simp [kp_rw]
theorem kp_rw_0 {a room : Nat} : kp_rw a room 0 = List.replicate room none := by
  apply List.ext_getElem?
  intro j
  by_cases hj : j < room
  · rw [kp_rw_at hj, if_neg (by omega), List.getElem?_replicate, if_pos hj]
  · rw [List.getElem?_eq_none (by rw [kp_rw_len]; omega), List.getElem?_eq_none (by rw [List.length_replicate]; omega)]
theorem kp_rw_1 {a room i : Nat} (hi : i < room) : (kp_rw a room i).set i (some (a + 3 + 2 * i)) = kp_rw a room (i + 1) := by
  apply List.ext_getElem?
  intro j
  by_cases hj : j < room
  · by_cases e : i = j
    · subst e
      rw [List.getElem?_set_self (by rw [kp_rw_len]; exact hi), kp_rw_at hj, if_pos (by omega)]
    · rw [List.getElem?_set_ne e, kp_rw_at hj, kp_rw_at hj]
      by_cases c : j < i
      · rw [if_pos c, if_pos (by omega)]
      · rw [if_neg c, if_neg (by omega)]
  · rw [List.getElem?_eq_none (by rw [List.length_set, kp_rw_len]; omega), List.getElem?_eq_none (by rw [kp_rw_len]; omega)]
theorem ct_K_init {room : Nat} (hr : h.1[a]? = some (.inr (.inr (kK, [.null, .null, .int 0])))) (hl : h.1.length = a + 1) (hroom : room ≤ 40) (k : ∀ h' : pm_H, kp_R h' a room [] → fr_new a (2 + 2 * room) (36 * room) h h' → Q none h') : pm_X xs 1 mK_init [.ref a, .int (nI room)] h Q := by
  have loop : ∀ (r i : Nat) (g : pm_H), i + r = room → g.1[a]? = some (.inr (.inr (kK, [.ref (a + 1), .ref (a + 2), .int 0]))) → g.1[a + 1]? = some (.inl (false, List.replicate room 0)) → g.1[a + 2]? = some (.inr (.inl (kB, kp_rw a room i))) → (∀ j, j < i → bt_R g (a + 3 + 2 * j) 32 []) → fr_new a (2 + 2 * i) (2 * room + 34 * i) h g → pm_W xs 1 mK_init 21 [.ref a, .int (nI room), .int (nI i)] [] g Q := by
    intro r
    induction r with
    | zero =>
      intro i g hi g1 g2 g3 g4 hfr
      have e : i = room := by omega
      subst e
      (repeat (first | refine pm_W.ts rfl rfl ?_ | refine pm_W.tl rfl rfl ?_))
      refine pm_W.icmp rfl (fun c => ?_) (fun c => ?_)
      · refine pm_W.ret rfl rfl (k g ⟨List.replicate i 0, kp_rw a i i, g1, g2, g3, by simp, kp_rw_len, Nat.zero_le _, hroom, fun x y r hx hy => ?_, fun x hx => ?_, fun x q hq => by cases hq⟩ ?_)
        · have lx : x < i := by have := (List.getElem?_eq_some_iff.mp hx).1; rw [kp_rw_len] at this; exact this
          have ly : y < i := by have := (List.getElem?_eq_some_iff.mp hy).1; rw [kp_rw_len] at this; exact this
          rw [kp_rw_at lx, if_pos lx] at hx
          rw [kp_rw_at ly, if_pos ly] at hy
          have := Option.some.inj (Option.some.inj (hx.trans hy.symm))
          omega
        · exact ⟨a + 3 + 2 * x, by rw [kp_rw_at hx, if_pos hx], by omega, by omega, by omega, [], g4 x hx⟩
        · rw [show 36 * i = 2 * i + 34 * i by omega]
          exact hfr
      · have c : ¬ nI i ≤ nI i := c
        rw [nI_leI (by omega) (by omega)] at c
        omega
    | succ r ih =>
      intro i g hi g1 g2 g3 g4 hfr
      have hlg : g.1.length = a + 3 + 2 * i := by rw [hfr.1, hl]; omega
      (repeat (first | refine pm_W.ts rfl rfl ?_ | refine pm_W.tl rfl rfl ?_))
      refine pm_W.icmp rfl (fun c => ?_) (fun c => ?_)
      · have c : nI room ≤ nI i := c
        rw [nI_leI (by omega) (by omega)] at c
        omega
      · (repeat (first | refine pm_W.ts rfl rfl ?_ | refine pm_W.tl rfl rfl ?_ | refine pm_W.get rfl rfl g1 rfl ?_))
        refine pm_W.new rfl rfl ?_
        rw [hlg]
        have p1 := fr_push_at (h := g.1) (c := .inr (.inr (kB, [Value.null, .int 0])))
        rw [hlg] at p1
        have fp : fr_new (a + 3 + 2 * i) 1 2 g (g.1 ++ [.inr (.inr (kB, [Value.null, .int 0]))], g.2 + 2) := fr_new_push (by omega)
        (repeat (first | refine pm_W.ts rfl rfl ?_ | refine pm_W.tl rfl rfl ?_))
        refine pm_W.callI (d' := 0) (as := [.int (nI 32)]) rfl rfl rfl rfl (fr_ble rfl) p1 (fr_ble rfl) (ct_B_init p1 (by simp; omega) (by omega) (fun g2' hB hf2 => ?_))
        have fall := fp.tr hf2
        have q1 := (fall.2.2 a (by omega)).trans g1
        have q2 := (fall.2.2 (a + 1) (by omega)).trans g2
        have q3 := (fall.2.2 (a + 2) (by omega)).trans g3
        obtain ⟨ys, v1, -⟩ := id hB
        refine pm_W.aast rfl q3 v1 (pm_ix_ok (j := i) (by rw [kp_rw_len]; omega) (by rw [kp_rw_len]; omega)) (by decide) ?_
        rw [kp_rw_1 (by omega)]
        (repeat (first | refine pm_W.ts rfl rfl ?_ | refine pm_W.tl rfl rfl ?_))
        refine pm_W.goto rfl ?_
        rw [fr_inc]
        refine ih (i + 1) _ (by omega) (fr_ne q1 (by omega)) (fr_ne q2 (by omega)) (fr_set q3) (fun j hj => ?_) ?_
        · by_cases e : j = i
          · subst e
            exact hB.keep fun k _ _ => List.getElem?_set_ne (by omega)
          · refine (g4 j (by omega)).keep fun k _ _ => ?_
            show (g2'.1.set (a + 2) _)[k]? = _
            rw [List.getElem?_set_ne (by omega)]
            exact fall.2.2 k (by omega)
        · have := (hfr.tr (fall.low (lo' := a) (by omega))).tr (fr_new_set (a := a + 2) (c := .inr (.inl (kB, kp_rw a room (i + 1)))) (show a ≤ a + 2 by omega))
          rw [show 2 + 2 * (i + 1) = 2 + 2 * i + (1 + 1) + 0 by omega, show 2 * room + 34 * (i + 1) = 2 * room + 34 * i + (2 + 32) + 0 by omega]
          exact this
  unfold pm_X
  (repeat (first | refine pm_W.ts rfl rfl ?_ | refine pm_W.tl rfl rfl ?_))
  refine pm_W.obj rfl rfl rfl rfl ?_
  (repeat (first | refine pm_W.ts rfl rfl ?_ | refine pm_W.tl rfl rfl ?_))
  refine pm_W.newa rfl (nI_pos (by omega)) (by rw [nI_clamp (by omega)]; omega) ?_
  rw [nI_clamp (by omega), hl]
  have hr2 := fr_push_old (c := .inl (false, List.replicate room 0)) hr
  have ha1 := fr_push_at (h := h.1) (c := .inl (false, List.replicate room 0))
  rw [hl] at ha1
  refine pm_W.put (v := .ref (a + 1)) rfl rfl hr2 (fr_ble rfl) rfl (Or.inr ⟨rfl, rfl⟩) ?_
  have f1 : fr_new a 1 room h ((h.1 ++ ([.inl (false, List.replicate room 0)] : List pm_C)).set a (.inr (.inr (kK, [.ref (a + 1), .null, .int 0]))), h.2 + room) := (fr_new_push (by omega)).tr (fr_new_set (Nat.le_refl _))
  have hr3 := fr_set (c := .inr (.inr (kK, [Value.ref (a + 1), .null, .int 0]))) hr2
  have ha2 := fr_ne (c := .inr (.inr (kK, [Value.ref (a + 1), .null, .int 0]))) ha1 (show a ≠ a + 1 by omega)
  generalize hg : (((h.1 ++ ([.inl (false, List.replicate room 0)] : List pm_C)).set a (.inr (.inr (kK, [Value.ref (a + 1), .null, .int 0]))), h.2 + room) : pm_H) = g at f1
  have hr3 : g.1[a]? = some (.inr (.inr (kK, [Value.ref (a + 1), .null, .int 0]))) := by rw [← hg]; exact hr3
  have ha2 : g.1[a + 1]? = some (.inl (false, List.replicate room 0)) := by rw [← hg]; exact ha2
  have hlg : g.1.length = a + 2 := by rw [f1.1, hl]
  show pm_W xs 1 mK_init 11 _ _ (((h.1 ++ ([.inl (false, List.replicate room 0)] : List pm_C)).set a (.inr (.inr (kK, [Value.ref (a + 1), .null, .int 0]))), h.2 + room) : pm_H) Q
  rw [hg]
  (repeat (first | refine pm_W.ts rfl rfl ?_ | refine pm_W.tl rfl rfl ?_))
  refine pm_W.anew rfl rfl (nI_pos (by omega)) (by rw [nI_clamp (by omega)]; omega) ?_
  rw [nI_clamp (by omega), hlg]
  have hr4 := fr_push_old (c := .inr (.inl (kB, List.replicate room none))) hr3
  have ha3 := fr_push_old (c := .inr (.inl (kB, List.replicate room none))) ha2
  have ha4 := fr_push_at (h := g.1) (c := .inr (.inl (kB, List.replicate room none)))
  rw [hlg] at ha4
  refine pm_W.put (v := .ref (a + 2)) rfl rfl hr4 (fr_ble rfl) rfl (Or.inr ⟨rfl, rfl⟩) ?_
  (iterate 2 (first | refine pm_W.ts rfl rfl ?_ | refine pm_W.tl rfl rfl ?_))
  refine loop room 0 _ (by omega) (fr_set hr4) (fr_ne ha3 (by omega)) (by rw [kp_rw_0]; exact fr_ne ha4 (by omega)) (fun j hj => by omega) ?_
  have := f1.tr ((fr_new_push (lo := a) (m := room) (h := g) (c := .inr (.inl (kB, List.replicate room none))) (by omega)).tr (fr_new_set (a := a) (c := .inr (.inr (kK, [Value.ref (a + 1), .ref (a + 2), .int 0]))) (Nat.le_refl _)))
  rw [show 2 + 2 * 0 = 1 + (1 + 0) by omega, show 2 * room + 34 * 0 = room + (room + 0) by omega]
  exact this
end CTORS
