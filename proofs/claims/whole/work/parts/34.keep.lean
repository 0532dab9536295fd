def kp_rok (h : pm_H) (a room r : Nat) : Prop := a + 3 ≤ r ∧ r + 2 ≤ a + 3 + 2 * room ∧ (r - a - 3) % 2 = 0 ∧ ∃ bs, bt_R h r 32 bs
def kp_R (h : pm_H) (a room : Nat) (L : List (Int32 × List Int32)) : Prop := ∃ (ids : List Int32) (rows : List (Option Nat)), h.1[a]? = some (.inr (.inr (kK, [.ref (a + 1), .ref (a + 2), .int (nI L.length)]))) ∧ h.1[a + 1]? = some (.inl (false, ids)) ∧ h.1[a + 2]? = some (.inr (.inl (kB, rows))) ∧
  ids.length = room ∧ rows.length = room ∧ L.length ≤ room ∧ room ≤ 40 ∧ (∀ (i j r : Nat), rows[i]? = some (some r) → rows[j]? = some (some r) → i = j) ∧ (∀ i, i < room → ∃ r, rows[i]? = some (some r) ∧ kp_rok h a room r) ∧
  (∀ (i : Nat) (q : Int32 × List Int32), L[i]? = some q → ids[i]? = some q.1 ∧ ∃ r, rows[i]? = some (some r) ∧ bt_R h r 32 q.2)
theorem kp_R.keep {h h' : pm_H} {a room : Nat} {L : List (Int32 × List Int32)} (hb : kp_R h a room L) (e : ∀ k, a ≤ k → k < a + 3 + 2 * room → h'.1[k]? = h.1[k]?) : kp_R h' a room L := by
  obtain ⟨ids, rows, h1, h2, h3, h4, h5, h6, h7, h8, h9, h10⟩ := hb
  refine ⟨ids, rows, (e a (by omega) (by omega)).trans h1, ?_, ?_, h4, h5, h6, h7, h8, fun i hi => ?_, fun i q hq => ?_⟩
  · by_cases hr : room = 0
    · rw [(e (a + 1) (by omega) (by omega))]; exact h2
    · exact (e (a + 1) (by omega) (by omega)).trans h2
  · exact (e (a + 2) (by omega) (by omega)).trans h3
  · obtain ⟨r, g1, g2, g3, g4, bs, g5⟩ := h9 i hi
    exact ⟨r, g1, g2, g3, g4, bs, g5.keep fun k _ _ => e k (by omega) (by omega)⟩
  · obtain ⟨g1, r, g2, g3⟩ := h10 i q hq
    have hi : i < room := by
      have := (List.getElem?_eq_some_iff.mp g2).1
      omega
    obtain ⟨r', g4, g5, g6, -⟩ := h9 i hi
    rw [g2] at g4
    cases g4
    exact ⟨g1, r, g2, g3.keep fun k _ _ => e k (by omega) (by omega)⟩
theorem kp_R.ag {h h' : pm_H} {a room lo hi : Nat} {L : List (Int32 × List Int32)} (hb : kp_R h a room L) (e : fr_ag lo hi h h') (hd : a + 3 + 2 * room ≤ lo ∨ hi ≤ a) : kp_R h' a room L := hb.keep fun k _ _ => e.2.2 k (by omega)
section KEEP
variable {xs : List Int32} {h : pm_H} {a room : Nat} {L : List (Int32 × List Int32)} {Q : Option Value → pm_H → Prop}
def kp_i (L : List (Int32 × List Int32)) (j : Nat) : Int32 := (L.getD j (0, [])).1
def kp_b (L : List (Int32 × List Int32)) (j : Nat) : List Int32 := (L.getD j (0, [])).2
theorem kp_at {j : Nat} (hj : j < L.length) : L[j]? = some (kp_i L j, kp_b L j) := by
  rw [List.getElem?_eq_getElem hj]
  simp [kp_i, kp_b, hj]
theorem ct_K_count (hb : kp_R h a room L) (k : Q (some (.int (nI L.length))) h) : pm_X xs 0 mK_count [.ref a] h Q := by
  obtain ⟨ids, rows, h1, -⟩ := hb
  unfold pm_X
  (repeat (first | refine pm_W.ts rfl rfl ?_ | refine pm_W.tl rfl rfl ?_ | refine pm_W.get rfl rfl h1 rfl ?_))
  exact pm_W.iret rfl rfl k
theorem ct_K_idAt (hb : kp_R h a room L) {j : Nat} (hj : j < L.length) (k : Q (some (.int (kp_i L j))) h) : pm_X xs 0 mK_idAt [.ref a, .int (nI j)] h Q := by
  obtain ⟨ids, rows, h1, h2, h3, h4, h5, h6, h7, h8, h9, h10⟩ := hb
  unfold pm_X
  (repeat (first | refine pm_W.ts rfl rfl ?_ | refine pm_W.tl rfl rfl ?_ | refine pm_W.get rfl rfl h1 rfl ?_))
  refine pm_W.ifz rfl (fun c => ?_) (fun c => ?_)
  · exact absurd c (nI_pos (by omega))
  · (repeat (first | refine pm_W.ts rfl rfl ?_ | refine pm_W.tl rfl rfl ?_ | refine pm_W.get rfl rfl h1 rfl ?_))
    refine pm_W.icmp rfl (fun c2 => ?_) (fun c2 => ?_)
    · have c2 : nI L.length ≤ nI j := c2
      rw [nI_leI (by omega) (by omega)] at c2
      omega
    · (repeat (first | refine pm_W.ts rfl rfl ?_ | refine pm_W.tl rfl rfl ?_ | refine pm_W.get rfl rfl h1 rfl ?_))
      refine pm_W.iald rfl h2 (pm_ix_ok (j := j) (by omega) (by omega)) ?_
      refine pm_W.goto rfl ?_
      refine pm_W.iret rfl rfl ?_
      rw [List.getD_eq_getElem?_getD, (h10 j _ (kp_at hj)).1]
      exact k
theorem ct_K_placeOf (hb : kp_R h a room L) {w : Int32} (k1 : ∀ i, i < L.length → kp_i L i = w → (∀ j, j < i → kp_i L j ≠ w) → Q (some (.int (nI i))) h) (k0 : (∀ j, j < L.length → kp_i L j ≠ w) → Q (some (.int (-1))) h) : pm_X xs 0 mK_placeOf [.ref a, .int w] h Q := by
  obtain ⟨ids, rows, h1, h2, h3, h4, h5, h6, h7, h8, h9, h10⟩ := hb
  have loop : ∀ (r i : Nat), i + r = L.length → (∀ j, j < i → kp_i L j ≠ w) → pm_W xs 0 mK_placeOf 2 [.ref a, .int w, .int (nI i)] [] h Q := by
    intro r
    induction r with
    | zero =>
      intro i hi hj
      (repeat (first | refine pm_W.ts rfl rfl ?_ | refine pm_W.tl rfl rfl ?_ | refine pm_W.get rfl rfl h1 rfl ?_))
      refine pm_W.icmp rfl (fun c => ?_) (fun c => ?_)
      · (repeat (first | refine pm_W.ts rfl rfl ?_ | refine pm_W.tl rfl rfl ?_ | refine pm_W.get rfl rfl h1 rfl ?_))
        exact pm_W.iret rfl rfl (k0 (by rw [← hi]; exact hj))
      · have c : ¬ nI L.length ≤ nI i := c
        rw [nI_leI (by omega) (by omega)] at c
        omega
    | succ r ih =>
      intro i hi hj
      (repeat (first | refine pm_W.ts rfl rfl ?_ | refine pm_W.tl rfl rfl ?_ | refine pm_W.get rfl rfl h1 rfl ?_))
      refine pm_W.icmp rfl (fun c => ?_) (fun c => ?_)
      · have c : nI L.length ≤ nI i := c
        rw [nI_leI (by omega) (by omega)] at c
        omega
      · (repeat (first | refine pm_W.ts rfl rfl ?_ | refine pm_W.tl rfl rfl ?_ | refine pm_W.get rfl rfl h1 rfl ?_))
        refine pm_W.iald rfl h2 (pm_ix_ok (j := i) (by omega) (by omega)) ?_
        have e1 : ids.getD i 0 = kp_i L i := by
          rw [List.getD_eq_getElem?_getD, (h10 i _ (kp_at (by omega))).1]
          rfl
        rw [e1]
        (repeat (first | refine pm_W.ts rfl rfl ?_ | refine pm_W.tl rfl rfl ?_))
        refine pm_W.icmp rfl (fun c2 => ?_) (fun c2 => ?_)
        · have c2 : ¬ kp_i L i = w := c2
          (repeat (first | refine pm_W.ts rfl rfl ?_ | refine pm_W.tl rfl rfl ?_))
          refine pm_W.goto rfl ?_
          have := ih (i + 1) (by omega) (fun j hj2 => by
            by_cases hji : j = i
            · rw [hji]; exact c2
            · exact hj j (by omega))
          rw [← fr_inc] at this
          exact this
        · have c2 : ¬ ¬ kp_i L i = w := c2
          (repeat (first | refine pm_W.ts rfl rfl ?_ | refine pm_W.tl rfl rfl ?_))
          exact pm_W.iret rfl rfl (k1 i (by omega) (Classical.not_not.mp c2) hj)
  unfold pm_X
  (iterate 2 (first | refine pm_W.ts rfl rfl ?_ | refine pm_W.tl rfl rfl ?_))
  exact loop L.length 0 (by omega) (fun j hj => by omega)
theorem ct_K_bytesUnder (hb : kp_R h a room L) {w : Int32} (k1 : ∀ i r, i < L.length → kp_i L i = w → (∀ j, j < i → kp_i L j ≠ w) → a + 3 ≤ r → r + 2 ≤ a + 3 + 2 * room → bt_R h r 32 (kp_b L i) → (∀ bs h', bt_R h' r 32 bs → fr_ag r (r + 2) h h' → kp_R h' a room (L.set i (w, bs))) → Q (some (.ref r)) h) (k0 : (∀ j, j < L.length → kp_i L j ≠ w) → Q (some .null) h) : pm_X xs 1 mK_bytesUnder [.ref a, .int w] h Q := by
  have hb' := hb
  obtain ⟨ids, rows, h1, h2, h3, h4, h5, h6, h7, h8, h9, h10⟩ := hb
  unfold pm_X
  (repeat (first | refine pm_W.ts rfl rfl ?_ | refine pm_W.tl rfl rfl ?_ | refine pm_W.get rfl rfl h1 rfl ?_))
  refine pm_W.callV rfl rfl rfl rfl (fr_ble rfl) h1 (fr_ble rfl) (ct_K_placeOf hb' (fun i hi hw hj => ?_) (fun hn => ?_))
  · (repeat (first | refine pm_W.ts rfl rfl ?_ | refine pm_W.tl rfl rfl ?_))
    refine pm_W.icmp rfl (fun c => ?_) (fun c => ?_)
    · (repeat (first | refine pm_W.ts rfl rfl ?_ | refine pm_W.tl rfl rfl ?_ | refine pm_W.get rfl rfl h1 rfl ?_))
      obtain ⟨g1, r, g2, g3⟩ := h10 i _ (kp_at hi)
      obtain ⟨r', g4, g5, g6, g7, -⟩ := h9 i (by omega)
      rw [g2] at g4
      cases g4
      refine pm_W.aald rfl h3 (pm_ix_ok (j := i) (by omega) (by omega)) (by decide) ?_
      have e1 : rows.getD i none = some r := by rw [List.getD_eq_getElem?_getD, g2]; rfl
      rw [e1]
      refine pm_W.aretR rfl rfl (k1 i r hi hw hj g5 g6 g3 (fun bs h' hbs hag => ?_))
      refine ⟨ids, rows, ?_, hag.at (by omega) h2, hag.at (by omega) h3, h4, h5, by rw [List.length_set]; exact h6, h7, h8, fun j hj => ?_, fun j q hq => ?_⟩
      · rw [List.length_set]
        exact hag.at (by omega) h1
      · obtain ⟨r2, q1, q2, q3, q4, cs, q5⟩ := h9 j hj
        by_cases hr : r2 = r
        · subst hr
          exact ⟨r2, q1, q2, q3, q4, bs, hbs⟩
        · exact ⟨r2, q1, q2, q3, q4, cs, q5.ag hag (by omega)⟩
      · by_cases hji : i = j
        · subst hji
          rw [List.getElem?_set_self hi] at hq
          cases hq
          refine ⟨?_, r, g2, hbs⟩
          rw [← hw]
          exact g1
        · rw [List.getElem?_set_ne hji] at hq
          obtain ⟨q1, r2, q2, q3⟩ := h10 j q hq
          refine ⟨q1, r2, q2, q3.ag hag ?_⟩
          have hjr : j < room := by
            have := (List.getElem?_eq_some_iff.mp q2).1
            omega
          obtain ⟨r3, p1, p2, p3, p4, -⟩ := h9 j hjr
          rw [q2] at p1
          cases p1
          have hr : r2 ≠ r := fun z => hji (by subst z; exact h8 i j r2 g2 q2)
          omega
    · have c : ¬ ¬ nI i = Int32.ofInt (-1) := c
      have c := Classical.not_not.mp c
      have c2 : (nI i).toInt = -1 := by rw [c]; rfl
      rw [nI_toInt (by omega)] at c2
      omega
  · (repeat (first | refine pm_W.ts rfl rfl ?_ | refine pm_W.tl rfl rfl ?_))
    refine pm_W.icmp rfl (fun c => ?_) (fun c => ?_)
    · exact absurd rfl c
    · (repeat (first | refine pm_W.ts rfl rfl ?_ | refine pm_W.tl rfl rfl ?_))
      refine pm_W.goto rfl ?_
      exact pm_W.aretN rfl rfl (k0 hn)
end KEEP
