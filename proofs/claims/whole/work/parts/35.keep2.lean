section KEEP2
variable {xs : List Int32} {h : pm_H} {a room : Nat} {L : List (Int32 × List Int32)} {Q : Option Value → pm_H → Prop}
def kp_sg (p c j : Nat) : Nat := if j < p then j else if j < c then j + 1 else if j = c then p else j
theorem kp_sg_c {p c j : Nat} (hp : p ≤ c) : (j < p ∧ kp_sg p c j = j) ∨ (p ≤ j ∧ j < c ∧ kp_sg p c j = j + 1) ∨ (j = c ∧ kp_sg p c j = p) ∨ (c < j ∧ kp_sg p c j = j) := by
  unfold kp_sg
  by_cases h1 : j < p
  · rw [if_pos h1]; omega
  · by_cases h2 : j < c
    · rw [if_neg h1, if_pos h2]; omega
    · by_cases h3 : j = c
      · rw [if_neg h1, if_neg h2, if_pos h3]; omega
      · rw [if_neg h1, if_neg h2, if_neg h3]; omega
theorem kp_sg_inj {p c i j : Nat} (hp : p ≤ c) (e : kp_sg p c i = kp_sg p c j) : i = j := by
  rcases kp_sg_c (j := i) hp with h1 | h1 | h1 | h1 <;> rcases kp_sg_c (j := j) hp with h2 | h2 | h2 | h2 <;> omega
theorem kp_sg_lt {p c j n : Nat} (hp : p ≤ c) (hc : c < n) (hj : j < n) : kp_sg p c j < n := by
  rcases kp_sg_c (j := j) hp with h1 | h1 | h1 | h1 <;> omega
theorem ct_K_takeOut (hb : kp_R h a room L) {p : Nat} (hp : p < L.length) (k : ∀ h' : pm_H, kp_R h' a room (L.eraseIdx p) → fr_ag a (a + 3) h h' → Q (some (.int 1)) h') : pm_X xs 0 mK_takeOut [.ref a, .int (nI p)] h Q := by
  obtain ⟨ids, rows, h1, h2, h3, h4, h5, h6, h7, h8, h9, h10⟩ := hb
  obtain ⟨c, hc⟩ : ∃ c, L.length = c + 1 := ⟨L.length - 1, by omega⟩
  obtain ⟨r0, p1, p2⟩ := h9 p (by omega)
  have e0 : rows.getD p none = some r0 := by rw [List.getD_eq_getElem?_getD, p1]; rfl
  have loop : ∀ (r i : Nat) (h1' : pm_H), i + r = c → p ≤ i → h1'.1[a]? = some (.inr (.inr (kK, [.ref (a + 1), .ref (a + 2), .int (nI c)]))) → h1'.1[a + 1]? = some (.inl (false, fr_shift 0 ids p i)) → h1'.1[a + 2]? = some (.inr (.inl (kB, fr_shift none rows p i))) → fr_ag a (a + 3) h h1' →
      pm_W xs 0 mK_takeOut 33 [.ref a, .int (nI p), .ref r0, .int (nI i)] [] h1' Q := by
    intro r
    induction r with
    | zero =>
      intro i g hi hpi g1 g2 g3 hag
      (repeat (first | refine pm_W.ts rfl rfl ?_ | refine pm_W.tl rfl rfl ?_ | refine pm_W.get rfl rfl g1 rfl ?_))
      refine pm_W.icmp rfl (fun cc => ?_) (fun cc => ?_)
      · (repeat (first | refine pm_W.ts rfl rfl ?_ | refine pm_W.tl rfl rfl ?_ | refine pm_W.get rfl rfl g1 rfl ?_))
        obtain ⟨w2, w3, w4, bs0, w5⟩ := p2
        have w6 := w5.ag hag (by omega)
        obtain ⟨ys, v1, -⟩ := id w6
        refine pm_W.aast rfl g3 v1 (pm_ix_ok (j := c) (by rw [fr_shift_len]; omega) (by rw [fr_shift_len]; omega)) (by decide) ?_
        (repeat (first | refine pm_W.ts rfl rfl ?_ | refine pm_W.tl rfl rfl ?_))
        have hic : i = c := by omega
        subst hic
        have hsg : ∀ j, j < room → ((fr_shift none rows p i).set i (some r0))[j]? = rows[kp_sg p i j]? := by
          intro j hj
          have hrd : ∀ t, t < room → rows[t]? = some (rows.getD t none) := fun t ht => by
            rw [List.getD_eq_getElem?_getD, List.getElem?_eq_getElem (by omega)]
            rfl
          by_cases hji : i = j
          · subst hji
            rw [List.getElem?_set_self (by rw [fr_shift_len]; omega)]
            unfold kp_sg
            by_cases hpe : i < p
            · omega
            · rw [if_neg hpe, if_neg (Nat.lt_irrefl _), if_pos rfl, p1]
          · rw [List.getElem?_set_ne hji, fr_shift_at (by omega)]
            unfold kp_sg
            by_cases q1 : j < p
            · rw [if_neg (by omega), if_pos q1, hrd j hj]
            · by_cases q2 : j < i
              · rw [if_pos (by omega), if_neg q1, if_pos q2, hrd (j + 1) (by omega)]
              · rw [if_neg (by omega), if_neg q1, if_neg q2, if_neg (fun z => hji z.symm), hrd j hj]
        have hag2 : fr_ag a (a + 3) h (g.1.set (a + 2) (.inr (.inl (kB, (fr_shift none rows p i).set i (some r0)))), g.2) := hag.tr (fr_agset (by omega) (by omega))
        refine pm_W.iret rfl rfl (k _ ⟨fr_shift 0 ids p i, (fr_shift none rows p i).set i (some r0), ?_, fr_ne g2 (by omega), fr_set g3, by rw [fr_shift_len]; exact h4, by rw [List.length_set, fr_shift_len]; exact h5, ?_, h7, fun x y r hx hy => ?_, fun x hx => ?_, fun x q hq => ?_⟩ hag2)
        · rw [List.length_eraseIdx_of_lt hp, hc]
          exact fr_ne g1 (by omega)
        · rw [List.length_eraseIdx_of_lt hp]
          omega
        · have lx : x < room := by
            have := (List.getElem?_eq_some_iff.mp hx).1
            rw [List.length_set, fr_shift_len] at this
            omega
          have ly : y < room := by
            have := (List.getElem?_eq_some_iff.mp hy).1
            rw [List.length_set, fr_shift_len] at this
            omega
          rw [hsg x lx] at hx
          rw [hsg y ly] at hy
          exact kp_sg_inj (by omega) (h8 _ _ _ hx hy)
        · obtain ⟨r, q1, q2, q3, q4, bs, q5⟩ := h9 (kp_sg p i x) (kp_sg_lt (by omega) (by omega) hx)
          exact ⟨r, by rw [hsg x hx]; exact q1, q2, q3, q4, bs, q5.ag hag2 (by omega)⟩
        · have hxl : x < i := by
            have := (List.getElem?_eq_some_iff.mp hq).1
            rw [List.length_eraseIdx_of_lt hp] at this
            omega
          rw [List.getElem?_eraseIdx] at hq
          have hq2 : L[kp_sg p i x]? = some q := by
            unfold kp_sg
            by_cases q1 : x < p
            · rw [if_pos q1] at hq ⊢
              exact hq
            · rw [if_neg q1] at hq ⊢
              rw [if_pos hxl]
              exact hq
          obtain ⟨w1, r, w2, w3⟩ := h10 _ q hq2
          have hrr : a + 3 ≤ r := by
            obtain ⟨r', z1, z2, -⟩ := h9 (kp_sg p i x) (kp_sg_lt (by omega) (by omega) (by omega))
            rw [w2] at z1
            cases z1
            exact z2
          refine ⟨?_, r, by rw [hsg x (by omega)]; exact w2, w3.ag hag2 (by omega)⟩
          rw [fr_shift_at (by omega), ← w1]
          unfold kp_sg
          by_cases q1 : x < p
          · rw [if_neg (by omega), if_pos q1, List.getD_eq_getElem?_getD, List.getElem?_eq_getElem (by omega)]
            rfl
          · rw [if_pos (by omega), if_neg q1, if_pos hxl, List.getD_eq_getElem?_getD, List.getElem?_eq_getElem (by omega)]
            rfl
      · have cc : ¬ nI c ≤ nI i := cc
        rw [nI_leI (by omega) (by omega)] at cc
        omega
    | succ r ih =>
      intro i g hi hpi g1 g2 g3 hag
      (repeat (first | refine pm_W.ts rfl rfl ?_ | refine pm_W.tl rfl rfl ?_ | refine pm_W.get rfl rfl g1 rfl ?_))
      refine pm_W.icmp rfl (fun cc => ?_) (fun cc => ?_)
      · have cc : nI c ≤ nI i := cc
        rw [nI_leI (by omega) (by omega)] at cc
        omega
      · (repeat (first | refine pm_W.ts rfl rfl ?_ | refine pm_W.tl rfl rfl ?_ | refine pm_W.get rfl rfl g1 rfl ?_))
        have e1 : nI i + Int32.ofInt 1 = nI (i + 1) := fr_inc i
        rw [e1]
        refine pm_W.iald rfl g2 (pm_ix_ok (j := i + 1) (by rw [fr_shift_len]; omega) (by rw [fr_shift_len]; omega)) ?_
        rw [fr_shift_n (by omega)]
        refine pm_W.iast rfl g2 (pm_ix_ok (j := i) (by rw [fr_shift_len]; omega) (by rw [fr_shift_len]; omega)) ?_
        rw [fr_shift_1 hpi (by omega)]
        have g1a := fr_ne (c := .inl (false, fr_shift 0 ids p (i + 1))) g1 (show a + 1 ≠ a by omega)
        have g2a := fr_set (c := .inl (false, fr_shift 0 ids p (i + 1))) g2
        have g3a := fr_ne (c := .inl (false, fr_shift 0 ids p (i + 1))) g3 (show a + 1 ≠ a + 2 by omega)
        (repeat (first | refine pm_W.ts rfl rfl ?_ | refine pm_W.tl rfl rfl ?_ | refine pm_W.get rfl rfl g1a rfl ?_))
        rw [e1]
        refine pm_W.aald rfl g3a (pm_ix_ok (j := i + 1) (by rw [fr_shift_len]; omega) (by rw [fr_shift_len]; omega)) (by decide) ?_
        rw [fr_shift_n (by omega)]
        obtain ⟨r2, q1, q2, q3, q4, bs2, q5⟩ := h9 (i + 1) (by omega)
        have e2 : rows.getD (i + 1) none = some r2 := by rw [List.getD_eq_getElem?_getD, q1]; rfl
        rw [e2]
        have q6 := q5.ag (hag.tr (fr_agset (lo := a) (hi := a + 3) (k := a + 1) (c := .inl (false, fr_shift 0 ids p (i + 1))) (by omega) (by omega))) (by omega)
        obtain ⟨ys, v1, -⟩ := id q6
        refine pm_W.aast rfl g3a v1 (pm_ix_ok (j := i) (by rw [fr_shift_len]; omega) (by rw [fr_shift_len]; omega)) (by decide) ?_
        rw [← e2, fr_shift_1 hpi (by omega)]
        (repeat (first | refine pm_W.ts rfl rfl ?_ | refine pm_W.tl rfl rfl ?_))
        refine pm_W.goto rfl ?_
        rw [e1]
        exact ih (i + 1) _ (by omega) (by omega) (fr_ne g1a (by omega)) (fr_ne g2a (by omega)) (fr_set g3a) ((hag.tr (fr_agset (by omega) (by omega))).tr (fr_agset (by omega) (by omega)))
  unfold pm_X
  (repeat (first | refine pm_W.ts rfl rfl ?_ | refine pm_W.tl rfl rfl ?_ | refine pm_W.get rfl rfl h1 rfl ?_))
  refine pm_W.ifz rfl (fun cc => ?_) (fun cc => ?_)
  · exact absurd cc (nI_pos (by omega))
  · (repeat (first | refine pm_W.ts rfl rfl ?_ | refine pm_W.tl rfl rfl ?_ | refine pm_W.get rfl rfl h1 rfl ?_))
    refine pm_W.icmp rfl (fun cc2 => ?_) (fun cc2 => ?_)
    · (repeat (first | refine pm_W.ts rfl rfl ?_ | refine pm_W.tl rfl rfl ?_ | refine pm_W.get rfl rfl h1 rfl ?_))
      refine pm_W.aald rfl h3 (pm_ix_ok (j := p) (by omega) (by omega)) (by decide) ?_
      rw [e0]
      (repeat (first | refine pm_W.ts rfl rfl ?_ | refine pm_W.tl rfl rfl ?_ | refine pm_W.get rfl rfl h1 rfl ?_))
      have e1 : nI L.length - Int32.ofInt 1 = nI c := by rw [hc]; exact nI_pred c
      rw [e1]
      refine pm_W.put rfl rfl h1 (fr_ble rfl) rfl (Or.inl rfl) ?_
      (iterate 2 (first | refine pm_W.ts rfl rfl ?_ | refine pm_W.tl rfl rfl ?_))
      exact loop (c - p) p _ (by omega) (Nat.le_refl _) (fr_set h1) (by rw [fr_shift_0]; exact fr_ne h2 (by omega)) (by rw [fr_shift_0]; exact fr_ne h3 (by omega)) (fr_agset (by omega) (by omega))
    · have cc2 : ¬ nI p < nI L.length := cc2
      rw [nI_ltI (by omega) (by omega)] at cc2
      omega
end KEEP2
