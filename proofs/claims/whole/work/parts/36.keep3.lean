section KEEP3
variable {xs : List Int32} {h : pm_H} {a room : Nat} {L : List (Int32 × List Int32)} {Q : Option Value → pm_H → Prop}
theorem ct_K_takeOutN (hb : kp_R h a room L) (k : Q (some (.int 0)) h) : pm_X xs 0 mK_takeOut [.ref a, .int (-1)] h Q := by
  unfold pm_X
  (repeat (first | refine pm_W.ts rfl rfl ?_ | refine pm_W.tl rfl rfl ?_))
  refine pm_W.ifz rfl (fun c => ?_) (fun c => ?_)
  · (repeat (first | refine pm_W.ts rfl rfl ?_ | refine pm_W.tl rfl rfl ?_))
    exact pm_W.iret rfl rfl k
  · exact absurd (show (-1 : Int32) < 0 by decide) c
theorem kp_row (hb : kp_R h a room L) {i : Nat} (hi : i < L.length) : ∃ (rows : List (Option Nat)) (r : Nat), h.1[a + 2]? = some (.inr (.inl (kB, rows))) ∧ rows.length = room ∧ rows.getD i none = some r ∧ a + 3 ≤ r ∧ r + 2 ≤ a + 3 + 2 * room ∧ bt_R h r 32 (kp_b L i) ∧
    ∀ (bs : List Int32) (h' : pm_H), bt_R h' r 32 bs → fr_ag r (r + 2) h h' → kp_R h' a room (L.set i (kp_i L i, bs)) := by
  obtain ⟨ids, rows, h1, h2, h3, h4, h5, h6, h7, h8, h9, h10⟩ := hb
  obtain ⟨g1, r, g2, g3⟩ := h10 i _ (kp_at hi)
  obtain ⟨r', g4, g5, g6, g7, -⟩ := h9 i (by omega)
  rw [g2] at g4
  cases g4
  refine ⟨rows, r, h3, h5, by rw [List.getD_eq_getElem?_getD, g2]; rfl, g5, g6, g3, fun bs h' hbs hag => ?_⟩
  refine ⟨ids, rows, ?_, hag.at (by omega) h2, hag.at (by omega) h3, h4, h5, by rw [List.length_set]; exact h6, h7, h8, fun j hj => ?_, fun j q hq => ?_⟩
  · rw [List.length_set]
    exact hag.at (by omega) h1
  · obtain ⟨r2, q1, q2, q3, q4, cs, q5⟩ := h9 j hj
    by_cases hr : r2 = r
    · subst hr
      exact ⟨r2, q1, q2, q3, q4, bs, hbs⟩
    · exact ⟨r2, q1, q2, q3, q4, cs, q5.ag hag (by omega)⟩
  · by_cases hji : i = j
    · subst hji
      rw [List.getElem?_set_self hi] at hq
      cases hq
      exact ⟨g1, r, g2, hbs⟩
    · rw [List.getElem?_set_ne hji] at hq
      obtain ⟨q1, r2, q2, q3⟩ := h10 j q hq
      refine ⟨q1, r2, q2, q3.ag hag ?_⟩
      have hjr : j < room := by
        have := (List.getElem?_eq_some_iff.mp q2).1
        omega
      obtain ⟨r3, p1, p2, p3, p4, -⟩ := h9 j hjr
      rw [q2] at p1
      cases p1
      have hr : r2 ≠ r := fun z => hji (by subst z; exact h8 i j r2 g2 q2)
      omega
def kp_room (room : Nat) (L : List (Int32 × List Int32)) : List (Int32 × List Int32) := if L.length = room then L.eraseIdx 0 else L
theorem kp_push (hb : kp_R h a room L) (hl : L.length < room) {w : Int32} {h' : pm_H} {ids : List Int32} (g1 : h'.1[a]? = some (.inr (.inr (kK, [.ref (a + 1), .ref (a + 2), .int (nI (L.length + 1))])))) (g0 : h.1[a + 1]? = some (.inl (false, ids))) (g2 : h'.1[a + 1]? = some (.inl (false, ids.set L.length w))) (hag : ∀ k, (k < a ∨ a + 2 ≤ k) → h'.1[k]? = h.1[k]?) :
    ∃ bs, kp_R h' a room (L ++ [(w, bs)]) := by
  obtain ⟨ids', rows, h1, h2, h3, h4, h5, h6, h7, h8, h9, h10⟩ := hb
  rw [g0] at h2
  cases h2
  obtain ⟨r, q1, q2, q3, q4, bs, q5⟩ := h9 L.length hl
  refine ⟨bs, ids.set L.length w, rows, by rw [List.length_append, List.length_singleton]; exact g1, g2, (hag _ (by omega)).trans h3, by rw [List.length_set]; exact h4, h5, by rw [List.length_append, List.length_singleton]; omega, h7, h8, fun i hi => ?_, fun i q hq => ?_⟩
  · obtain ⟨r2, p1, p2, p3, p4, cs, p5⟩ := h9 i hi
    exact ⟨r2, p1, p2, p3, p4, cs, p5.keep fun k _ _ => hag k (by omega)⟩
  · by_cases hil : i < L.length
    · rw [List.getElem?_append_left hil] at hq
      obtain ⟨p1, r2, p2, p3⟩ := h10 i q hq
      obtain ⟨r3, w1, w2, -⟩ := h9 i (by omega)
      rw [p2] at w1
      cases w1
      exact ⟨by rw [List.getElem?_set_ne (by omega)]; exact p1, r2, p2, p3.keep fun k _ _ => hag k (by omega)⟩
    · have hil2 : i = L.length := by
        have := (List.getElem?_eq_some_iff.mp hq).1
        rw [List.length_append, List.length_singleton] at this
        omega
      subst hil2
      rw [List.getElem?_append_right (Nat.le_refl _), Nat.sub_self] at hq
      cases hq
      exact ⟨List.getElem?_set_self (by omega), r, q1, q5.keep fun k _ _ => hag k (by omega)⟩
theorem ct_K_placeForNew (hb : kp_R h a room L) (hr : 0 < room) {w : Int32} (k : ∀ (h' : pm_H) (bs : List Int32), kp_R h' a room (kp_room room L ++ [(w, bs)]) → fr_ag a (a + 3) h h' → Q (some (.int (nI (kp_room room L).length))) h') : pm_X xs 1 mK_placeForNew [.ref a, .int w] h Q := by
  have tail : ∀ (h1 : pm_H), kp_R h1 a room (kp_room room L) → (kp_room room L).length < room → fr_ag a (a + 3) h h1 → pm_W xs 1 mK_placeForNew 18 [.ref a, .int w] [] h1 Q := by
    intro g hg hl hag
    obtain ⟨ids, rows, h1, h2, h3, h4, h5, h6, h7, h8, h9, h10⟩ := id hg
    (repeat (first | refine pm_W.ts rfl rfl ?_ | refine pm_W.tl rfl rfl ?_ | refine pm_W.get rfl rfl h1 rfl ?_))
    refine pm_W.iast rfl h2 (pm_ix_ok (j := (kp_room room L).length) (by omega) (by omega)) ?_
    have h1a := fr_ne (c := .inl (false, ids.set (kp_room room L).length w)) h1 (show a + 1 ≠ a by omega)
    (repeat (first | refine pm_W.ts rfl rfl ?_ | refine pm_W.tl rfl rfl ?_ | refine pm_W.get rfl rfl h1a rfl ?_))
    refine pm_W.put (v := .int (nI (kp_room room L).length + 1)) rfl rfl h1a (fr_ble rfl) rfl (Or.inl rfl) ?_
    have e1 : nI (kp_room room L).length + 1 = nI ((kp_room room L).length + 1) := nI_1 _
    rw [e1]
    have h1b := fr_set (c := .inr (.inr (kK, [Value.ref (a + 1), .ref (a + 2), .int (nI ((kp_room room L).length + 1))]))) h1a
    obtain ⟨bs, hbs⟩ := kp_push (w := w) (h' := ((g.1.set (a + 1) (.inl (false, ids.set (kp_room room L).length w))).set a (.inr (.inr (kK, [Value.ref (a + 1), .ref (a + 2), .int (nI ((kp_room room L).length + 1))]))), g.2)) hg hl h1b h2 (fr_ne (fr_set h2) (by omega)) (fun k hk => by
      show ((g.1.set (a + 1) _).set a _)[k]? = _
      rw [List.getElem?_set_ne (by omega), List.getElem?_set_ne (by omega)])
    (iterate 4 (first | refine pm_W.ts rfl rfl ?_ | refine pm_W.tl rfl rfl ?_ | refine pm_W.get rfl rfl h1b rfl ?_))
    have e2 : nI ((kp_room room L).length + 1) - Int32.ofInt 1 = nI (kp_room room L).length := nI_pred _
    rw [e2]
    exact pm_W.iret rfl rfl (k _ bs hbs ((hag.tr (fr_agset (by omega) (by omega))).tr (fr_agset (by omega) (by omega))))
  obtain ⟨ids, rows, h1, h2, h3, h4, h5, h6, h7, h8, h9, h10⟩ := id hb
  unfold pm_X
  (repeat (first | refine pm_W.ts rfl rfl ?_ | refine pm_W.tl rfl rfl ?_ | refine pm_W.get rfl rfl h1 rfl ?_))
  refine pm_W.alen rfl h2 ?_
  refine pm_W.icmp rfl (fun c => ?_) (fun c => ?_)
  · have c : ¬ nI L.length = nI ids.length := c
    rw [nI_eq (by omega) (by omega)] at c
    have e : kp_room room L = L := if_neg (by omega)
    exact tail h (by rw [e]; exact hb) (by rw [e]; omega) fr_ag.rf
  · have c : ¬ ¬ nI L.length = nI ids.length := c
    have c := Classical.not_not.mp c
    rw [nI_eq (by omega) (by omega)] at c
    have e : kp_room room L = L.eraseIdx 0 := if_pos (by omega)
    (repeat (first | refine pm_W.ts rfl rfl ?_ | refine pm_W.tl rfl rfl ?_))
    refine pm_W.callV (d' := 0) rfl rfl rfl rfl (fr_ble rfl) h1 (fr_ble rfl) (ct_K_takeOut (p := 0) hb (by omega) (fun h2 hb2 hag2 => ?_))
    (iterate 1 (first | refine pm_W.ts rfl rfl ?_ | refine pm_W.tl rfl rfl ?_))
    exact tail h2 (by rw [e]; exact hb2) (by rw [e, List.length_eraseIdx_of_lt (by omega)]; omega) hag2
theorem kp_i_app {w : Int32} {bs : List Int32} : kp_i (L ++ [(w, bs)]) L.length = w := by simp [kp_i]
theorem ct_K_put {o ro n : Nat} {os : List Int32} {w s : Int32} (hb : kp_R h a room L) (hr : 0 < room) (ho : bt_R h o ro os) (hd : o + 2 ≤ a ∨ a + 3 + 2 * room ≤ o) (hn : n ≤ 32)
    (k1 : ∀ i, i < L.length → kp_i L i = w → (∀ j, j < i → kp_i L j ≠ w) → ∀ h' : pm_H, kp_R h' a room (L.set i (w, bt_from os s n)) → fr_ag a (a + 3 + 2 * room) h h' → Q none h')
    (k0 : (∀ j, j < L.length → kp_i L j ≠ w) → ∀ h' : pm_H, kp_R h' a room (kp_room room L ++ [(w, bt_from os s n)]) → fr_ag a (a + 3 + 2 * room) h h' → Q none h') : pm_X xs 3 mK_put [.ref a, .int w, .ref o, .int s, .int (nI n)] h Q := by
  have tail : ∀ (h1 : pm_H) (M : List (Int32 × List Int32)) (i : Nat), kp_R h1 a room M → i < M.length → fr_ag a (a + 3 + 2 * room) h h1 → (∀ h' : pm_H, kp_R h' a room (M.set i (kp_i M i, bt_from os s n)) → fr_ag a (a + 3 + 2 * room) h h' → Q none h') → pm_W xs 3 mK_put 20 [.ref a, .int w, .ref o, .int s, .int (nI n), .int (nI i)] [] h1 Q := by
    intro g M i hg hi hag k
    obtain ⟨rows, r, g3, g4, g5, g6, g7, g8, g9⟩ := kp_row hg hi
    obtain ⟨ids', rows', h1, h2, h3, h4, h5, h6, h7, -⟩ := id hg
    (repeat (first | refine pm_W.ts rfl rfl ?_ | refine pm_W.tl rfl rfl ?_ | refine pm_W.get rfl rfl h1 rfl ?_))
    refine pm_W.aald rfl g3 (pm_ix_ok (j := i) (by omega) (by omega)) (by decide) ?_
    rw [g5]
    obtain ⟨ys, r1, -⟩ := id g8
    refine pm_W.callV (d' := 0) rfl rfl rfl rfl (fr_ble rfl) r1 (fr_ble rfl) (ct_B_clear g8 (fun h2 hb2 hag2 => ?_))
    have h1' := hag2.at (by omega) h1
    (repeat (first | refine pm_W.ts rfl rfl ?_ | refine pm_W.tl rfl rfl ?_ | refine pm_W.get rfl rfl h1' rfl ?_))
    refine pm_W.aald rfl (hag2.at (by omega) g3) (pm_ix_ok (j := i) (by omega) (by omega)) (by decide) ?_
    rw [g5]
    (repeat (first | refine pm_W.ts rfl rfl ?_ | refine pm_W.tl rfl rfl ?_))
    obtain ⟨zs, r2, -⟩ := id hb2
    have ho2 := (ho.ag hag (by omega)).ag hag2 (by omega)
    refine pm_W.callV rfl rfl rfl rfl (fr_ble rfl) r2 (fr_ble rfl) (ct_B_addFrom hb2 ho2 (by omega) (by simpa using hn) (fun h3 hb3 hag3 => ?_))
    exact pm_W.ret rfl rfl (k h3 (g9 _ _ hb3 (hag2.tr hag3)) ((hag.tr (hag2.wide (by omega) (by omega))).tr (hag3.wide (by omega) (by omega))))
  obtain ⟨ids, rows, h1, h2, h3, h4, h5, h6, h7, h8, h9, h10⟩ := id hb
  unfold pm_X
  (repeat (first | refine pm_W.ts rfl rfl ?_ | refine pm_W.tl rfl rfl ?_))
  refine pm_W.callV (d' := 0) rfl rfl rfl rfl (fr_ble rfl) h1 (fr_ble rfl) (ct_K_placeOf hb (fun i hi hw hj => ?_) (fun hn0 => ?_))
  · (repeat (first | refine pm_W.ts rfl rfl ?_ | refine pm_W.tl rfl rfl ?_))
    refine pm_W.icmp rfl (fun c => ?_) (fun c => ?_)
    · exact tail h L i hb hi fr_ag.rf (fun h' hb' hag' => k1 i hi hw hj h' (by rw [hw] at hb'; exact hb') hag')
    · have c : ¬ ¬ nI i = Int32.ofInt (-1) := c
      have c := Classical.not_not.mp c
      have c2 : (nI i).toInt = -1 := by rw [c]; rfl
      rw [nI_toInt (by omega)] at c2
      omega
  · (repeat (first | refine pm_W.ts rfl rfl ?_ | refine pm_W.tl rfl rfl ?_))
    refine pm_W.icmp rfl (fun c => ?_) (fun c => ?_)
    · exact absurd rfl c
    · (repeat (first | refine pm_W.ts rfl rfl ?_ | refine pm_W.tl rfl rfl ?_))
      refine pm_W.callV rfl rfl rfl rfl (fr_ble rfl) h1 (fr_ble rfl) (ct_K_placeForNew hb hr (fun h2 bs hb2 hag2 => ?_))
      (iterate 1 (first | refine pm_W.ts rfl rfl ?_ | refine pm_W.tl rfl rfl ?_))
      refine tail h2 _ (kp_room room L).length hb2 (by simp) (hag2.wide (by omega) (by omega)) (fun h' hb' hag' => k0 hn0 h' ?_ hag')
      rw [kp_i_app] at hb'
      simpa using hb'
theorem ct_K_goodBytes {n : Nat} {w : Int32} (hb : kp_R h a room L) (hn : n ≤ 1000) (k1 : ∀ i r, i < L.length → kp_i L i = w → (∀ j, j < i → kp_i L j ≠ w) → (kp_b L i).length = n → bt_id (kp_b L i) 0 n = w → a + 3 ≤ r → r + 2 ≤ a + 3 + 2 * room → bt_R h r 32 (kp_b L i) → Q (some (.ref r)) h)
    (k0 : (∀ i, i < L.length → kp_i L i = w → (∀ j, j < i → kp_i L j ≠ w) → ¬ ((kp_b L i).length = n ∧ bt_id (kp_b L i) 0 n = w)) → Q (some .null) h) : pm_X xs 3 mK_goodBytes [.ref a, .int w, .int (nI n)] h Q := by
  obtain ⟨ids, rows, h1, h2, h3, h4, h5, h6, h7, h8, h9, h10⟩ := id hb
  unfold pm_X
  (repeat (first | refine pm_W.ts rfl rfl ?_ | refine pm_W.tl rfl rfl ?_))
  refine pm_W.callV rfl rfl rfl rfl (fr_ble rfl) h1 (fr_ble rfl) (ct_K_bytesUnder hb (fun i r hi hw hj hr1 hr2 hbr _ => ?_) (fun hn0 => ?_))
  · have bad : ¬ ((kp_b L i).length = n ∧ bt_id (kp_b L i) 0 n = w) → Q (some .null) h := fun q => k0 (fun i2 hi2 hw2 hj2 => by
      have : i2 = i := by
        rcases Nat.lt_trichotomy i2 i with z | z | z
        · exact absurd hw2 (hj i2 z)
        · exact z
        · exact absurd hw (hj2 i z)
      rw [this]
      exact q)
    obtain ⟨ys, r1, r2, r3, r4, r5, r6⟩ := id hbr
    (repeat (first | refine pm_W.ts rfl rfl ?_ | refine pm_W.tl rfl rfl ?_))
    refine pm_W.ifnullR rfl ?_
    (repeat (first | refine pm_W.ts rfl rfl ?_ | refine pm_W.tl rfl rfl ?_))
    refine pm_W.callV (d' := 0) rfl rfl rfl rfl (fr_ble rfl) r1 (fr_ble rfl) (ct_B_count hbr ?_)
    (repeat (first | refine pm_W.ts rfl rfl ?_ | refine pm_W.tl rfl rfl ?_))
    refine pm_W.icmp rfl (fun c => ?_) (fun c => ?_)
    · have c : ¬ nI (kp_b L i).length = nI n := c
      rw [nI_eq (by omega) (by omega)] at c
      (repeat (first | refine pm_W.ts rfl rfl ?_ | refine pm_W.tl rfl rfl ?_))
      refine pm_W.ifz rfl (fun c2 => ?_) (fun c2 => absurd rfl c2)
      (repeat (first | refine pm_W.ts rfl rfl ?_ | refine pm_W.tl rfl rfl ?_))
      exact pm_W.aretN rfl rfl (bad (fun z => c z.1))
    · have c : ¬ ¬ nI (kp_b L i).length = nI n := c
      have c := Classical.not_not.mp c
      rw [nI_eq (by omega) (by omega)] at c
      (repeat (first | refine pm_W.ts rfl rfl ?_ | refine pm_W.tl rfl rfl ?_))
      refine pm_W.callV rfl rfl rfl rfl (fr_ble rfl) r1 (fr_ble rfl) (ct_B_idOf hbr hn ?_)
      (repeat (first | refine pm_W.ts rfl rfl ?_ | refine pm_W.tl rfl rfl ?_))
      refine pm_W.icmp rfl (fun c2 => ?_) (fun c2 => ?_)
      · have c2 : ¬ bt_id (kp_b L i) 0 n = w := c2
        (repeat (first | refine pm_W.ts rfl rfl ?_ | refine pm_W.tl rfl rfl ?_))
        refine pm_W.ifz rfl (fun c3 => ?_) (fun c3 => absurd rfl c3)
        (repeat (first | refine pm_W.ts rfl rfl ?_ | refine pm_W.tl rfl rfl ?_))
        exact pm_W.aretN rfl rfl (bad (fun z => c2 z.2))
      · have c2 : ¬ ¬ bt_id (kp_b L i) 0 n = w := c2
        (repeat (first | refine pm_W.ts rfl rfl ?_ | refine pm_W.tl rfl rfl ?_))
        refine pm_W.goto rfl ?_
        (repeat (first | refine pm_W.ts rfl rfl ?_ | refine pm_W.tl rfl rfl ?_))
        refine pm_W.ifz rfl (fun c3 => absurd (show Int32.ofInt 1 = 0 from c3) (by decide)) (fun c3 => ?_)
        (repeat (first | refine pm_W.ts rfl rfl ?_ | refine pm_W.tl rfl rfl ?_))
        refine pm_W.goto rfl ?_
        exact pm_W.aretR rfl rfl (k1 i r hi hw hj c (Classical.not_not.mp c2) hr1 hr2 hbr)
  · (repeat (first | refine pm_W.ts rfl rfl ?_ | refine pm_W.tl rfl rfl ?_))
    refine pm_W.ifnullN rfl ?_
    (repeat (first | refine pm_W.ts rfl rfl ?_ | refine pm_W.tl rfl rfl ?_))
    refine pm_W.ifz rfl (fun c2 => ?_) (fun c2 => absurd rfl c2)
    (repeat (first | refine pm_W.ts rfl rfl ?_ | refine pm_W.tl rfl rfl ?_))
    exact pm_W.aretN rfl rfl (k0 (fun i hi hw _ => absurd hw (hn0 i hi)))
def kp_sum (L : List (Int32 × List Int32)) : Nat → Nat
  | 0 => 0
  | n + 1 => kp_sum L n + (kp_b L n).length
theorem kp_sum_le (hb : kp_R h a room L) : ∀ n, n ≤ L.length → kp_sum L n ≤ 32 * n := by
  intro n
  induction n with
  | zero => intro _; exact Nat.le_refl _
  | succ n ih =>
    intro hn
    have i1 := ih (by omega)
    obtain ⟨rows, r, -, -, -, -, -, ⟨ys, -, -, -, -, g, -⟩, -⟩ := kp_row hb (i := n) (by omega)
    show kp_sum L n + (kp_b L n).length ≤ _
    omega
theorem ct_K_bytesInAll (hb : kp_R h a room L) (k : Q (some (.int (nI (kp_sum L L.length)))) h) : pm_X xs 1 mK_bytesInAll [.ref a] h Q := by
  obtain ⟨ids, rows, h1, h2, h3, h4, h5, h6, h7, h8, h9, h10⟩ := id hb
  have loop : ∀ (r i : Nat), i + r = L.length → pm_W xs 1 mK_bytesInAll 4 [.ref a, .int (nI (kp_sum L i)), .int (nI i)] [] h Q := by
    intro r
    induction r with
    | zero =>
      intro i hi
      (repeat (first | refine pm_W.ts rfl rfl ?_ | refine pm_W.tl rfl rfl ?_ | refine pm_W.get rfl rfl h1 rfl ?_))
      refine pm_W.icmp rfl (fun c => ?_) (fun c => ?_)
      · (repeat (first | refine pm_W.ts rfl rfl ?_ | refine pm_W.tl rfl rfl ?_ | refine pm_W.get rfl rfl h1 rfl ?_))
        have hi : i = L.length := by omega
        subst hi
        exact pm_W.iret rfl rfl k
      · have c : ¬ nI L.length ≤ nI i := c
        rw [nI_leI (by omega) (by omega)] at c
        omega
    | succ r ih =>
      intro i hi
      (repeat (first | refine pm_W.ts rfl rfl ?_ | refine pm_W.tl rfl rfl ?_ | refine pm_W.get rfl rfl h1 rfl ?_))
      refine pm_W.icmp rfl (fun c => ?_) (fun c => ?_)
      · have c : nI L.length ≤ nI i := c
        rw [nI_leI (by omega) (by omega)] at c
        omega
      · (repeat (first | refine pm_W.ts rfl rfl ?_ | refine pm_W.tl rfl rfl ?_ | refine pm_W.get rfl rfl h1 rfl ?_))
        obtain ⟨rows', r', g3, g4, g5, g6, g7, g8, g9⟩ := kp_row hb (i := i) (by omega)
        refine pm_W.aald rfl g3 (pm_ix_ok (j := i) (by omega) (by omega)) (by decide) ?_
        rw [g5]
        obtain ⟨ys, r1, -⟩ := id g8
        refine pm_W.callV rfl rfl rfl rfl (fr_ble rfl) r1 (fr_ble rfl) (ct_B_count g8 ?_)
        (repeat (first | refine pm_W.ts rfl rfl ?_ | refine pm_W.tl rfl rfl ?_))
        refine pm_W.goto rfl ?_
        have := ih (i + 1) (by omega)
        rw [← fr_inc, show kp_sum L (i + 1) = kp_sum L i + (kp_b L i).length from rfl, ← nI_add] at this
        exact this
  unfold pm_X
  (iterate 4 (first | refine pm_W.ts rfl rfl ?_ | refine pm_W.tl rfl rfl ?_))
  exact loop L.length 0 (by omega)
end KEEP3
