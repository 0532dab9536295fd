def bt_R (h : pm_H) (a room : Nat) (bs : List Int32) : Prop := ∃ ys : List Int32, h.1[a]? = some (.inr (.inr (kB, [.ref (a + 1), .int (nI bs.length)]))) ∧ h.1[a + 1]? = some (.inl (false, ys)) ∧ ys.length = room ∧ ys.take bs.length = bs ∧ bs.length ≤ room ∧ room ≤ 1000
def bt_at (bs : List Int32) (p : Int32) : Int32 := if 0 ≤ p ∧ p < nI bs.length then bs.getD p.toNatClampNeg 0 else 0
def bt_has (bs : List Int32) (p : Int32) : Bool := decide (0 ≤ p ∧ p < nI bs.length)
theorem bt_R.keep {h h' : pm_H} {a room : Nat} {bs : List Int32} (hb : bt_R h a room bs) (e : ∀ k, a ≤ k → k < a + 2 → h'.1[k]? = h.1[k]?) : bt_R h' a room bs := by
  obtain ⟨ys, h1, h2, h3⟩ := hb
  exact ⟨ys, (e a (by omega) (by omega)).trans h1, (e (a + 1) (by omega) (by omega)).trans h2, h3⟩
theorem bt_R.ag {h h' : pm_H} {a room lo hi : Nat} {bs : List Int32} (hb : bt_R h a room bs) (e : fr_ag lo hi h h') (hd : a + 2 ≤ lo ∨ hi ≤ a) : bt_R h' a room bs := hb.keep fun k _ _ => e.2.2 k (by omega)
section BYTES
variable {xs : List Int32} {h : pm_H} {a room : Nat} {bs : List Int32} {Q : Option Value → pm_H → Prop}
theorem ct_B_count (hb : bt_R h a room bs) (k : Q (some (.int (nI bs.length))) h) : pm_X xs 0 mB_count [.ref a] h Q := by
  obtain ⟨ys, h1, h2, h3, h4, h5, h6⟩ := hb
  unfold pm_X
  (repeat (first | refine pm_W.ts rfl rfl ?_ | refine pm_W.tl rfl rfl ?_ | refine pm_W.get rfl rfl h1 rfl ?_))
  exact pm_W.iret rfl rfl k
theorem ct_B_has (hb : bt_R h a room bs) {p : Int32} (k : Q (some (.int (fr_b (bt_has bs p)))) h) : pm_X xs 0 mB_has [.ref a, .int p] h Q := by
  obtain ⟨ys, h1, h2, h3, h4, h5, h6⟩ := hb
  unfold pm_X
  (repeat (first | refine pm_W.ts rfl rfl ?_ | refine pm_W.tl rfl rfl ?_ | refine pm_W.get rfl rfl h1 rfl ?_))
  refine pm_W.ifz rfl (fun c => ?_) (fun c => ?_)
  · have c : p < 0 := c
    (repeat (first | refine pm_W.ts rfl rfl ?_ | refine pm_W.tl rfl rfl ?_ | refine pm_W.get rfl rfl h1 rfl ?_))
    refine pm_W.iret rfl rfl ?_
    rw [fr_bf (show bt_has bs p = false from decide_eq_false (fun z => by have z := z.1; rw [fr_le] at z; rw [fr_lt] at c; omega))] at k
    exact k
  · have c : ¬ p < 0 := c
    (repeat (first | refine pm_W.ts rfl rfl ?_ | refine pm_W.tl rfl rfl ?_ | refine pm_W.get rfl rfl h1 rfl ?_))
    refine pm_W.icmp rfl (fun c2 => ?_) (fun c2 => ?_)
    · have c2 : nI bs.length ≤ p := c2
      (repeat (first | refine pm_W.ts rfl rfl ?_ | refine pm_W.tl rfl rfl ?_ | refine pm_W.get rfl rfl h1 rfl ?_))
      refine pm_W.iret rfl rfl ?_
      rw [fr_bf (show bt_has bs p = false from decide_eq_false (fun z => by have z := z.2; rw [fr_lt] at z; rw [fr_le] at c2; omega))] at k
      exact k
    · have c2 : ¬ nI bs.length ≤ p := c2
      (repeat (first | refine pm_W.ts rfl rfl ?_ | refine pm_W.tl rfl rfl ?_ | refine pm_W.get rfl rfl h1 rfl ?_))
      refine pm_W.goto rfl ?_
      refine pm_W.iret rfl rfl ?_
      rw [fr_bt (show bt_has bs p = true from decide_eq_true ⟨fr_nlt c, fr_nle c2⟩)] at k
      exact k
theorem bt_has_nat {p : Int32} (hp : bt_has bs p = true) (hl : bs.length ≤ 1000) : ∃ j : Nat, j < bs.length ∧ p = nI j := by
  have h1 := of_decide_eq_true hp
  obtain ⟨j, hj, rfl⟩ := fr_nat h1.1
  exact ⟨j, (nI_ltI hj (by omega)).mp h1.2, rfl⟩
theorem bt_at_nat {j : Nat} (hj : j < bs.length) (hl : bs.length ≤ 1000) : bt_at bs (nI j) = bs.getD j 0 := by
  unfold bt_at
  rw [if_pos ⟨nI_pos' (by omega), nI_lt hj (by omega)⟩, nI_clamp (by omega)]
theorem bt_at_not {p : Int32} (hp : bt_has bs p = false) : bt_at bs p = 0 := by
  unfold bt_at
  rw [if_neg (of_decide_eq_false hp)]
theorem bt_get {ys : List Int32} {j : Nat} (h4 : ys.take bs.length = bs) (hj : j < bs.length) : ys.getD j 0 = bs.getD j 0 := by
  have h1 : (ys.take bs.length)[j]? = bs[j]? := by rw [h4]
  rw [List.getElem?_take, if_pos hj] at h1
  rw [List.getD_eq_getElem?_getD, List.getD_eq_getElem?_getD, h1]
theorem ct_B_at (hb : bt_R h a room bs) {p : Int32} (k : Q (some (.int (bt_at bs p))) h) : pm_X xs 1 mB_at [.ref a, .int p] h Q := by
  have hb' := hb
  obtain ⟨ys, h1, h2, h3, h4, h5, h6⟩ := hb
  unfold pm_X
  (repeat (first | refine pm_W.ts rfl rfl ?_ | refine pm_W.tl rfl rfl ?_ | refine pm_W.get rfl rfl h1 rfl ?_))
  refine pm_W.callV rfl rfl rfl rfl (fr_ble rfl) h1 (fr_ble rfl) (ct_B_has hb' ?_)
  refine pm_W.ifz rfl (fun c => ?_) (fun c => ?_)
  · have c : fr_b (bt_has bs p) = 0 := c
    have c : bt_has bs p = false := by
      cases hq : bt_has bs p with
      | false => rfl
      | true => rw [hq] at c; exact absurd c (by decide)
    (repeat (first | refine pm_W.ts rfl rfl ?_ | refine pm_W.tl rfl rfl ?_ | refine pm_W.get rfl rfl h1 rfl ?_))
    refine pm_W.iret rfl rfl ?_
    rw [bt_at_not c] at k
    exact k
  · have c : ¬ fr_b (bt_has bs p) = 0 := c
    have c : bt_has bs p = true := by
      cases hq : bt_has bs p with
      | true => rfl
      | false => rw [hq] at c; exact absurd rfl c
    obtain ⟨j, hj, rfl⟩ := bt_has_nat c (by omega)
    (repeat (first | refine pm_W.ts rfl rfl ?_ | refine pm_W.tl rfl rfl ?_ | refine pm_W.get rfl rfl h1 rfl ?_))
    refine pm_W.iald rfl h2 (pm_ix_ok (j := j) (by omega) (by omega)) ?_
    refine pm_W.goto rfl ?_
    refine pm_W.iret rfl rfl ?_
    rw [bt_at_nat hj (by omega), ← bt_get h4 hj] at k
    exact k
theorem fr_b0 {c : Bool} (h : fr_b c = 0) : c = false := by
  cases c with
  | false => rfl
  | true => exact absurd h (by decide)
theorem fr_b1 {c : Bool} (h : ¬ fr_b c = 0) : c = true := by
  cases c with
  | true => rfl
  | false => exact absurd rfl h
theorem ct_B_change (hb : bt_R h a room bs) {p v : Int32} (k0 : bt_has bs p = false → Q (some (.int 0)) h) (k1 : ∀ (j : Nat) (h' : pm_H), j < bs.length → p = nI j → bt_R h' a room (bs.set j (v &&& 255)) → fr_ag a (a + 2) h h' → Q (some (.int 1)) h') : pm_X xs 1 mB_change [.ref a, .int p, .int v] h Q := by
  have hb' := hb
  obtain ⟨ys, h1, h2, h3, h4, h5, h6⟩ := hb
  unfold pm_X
  (repeat (first | refine pm_W.ts rfl rfl ?_ | refine pm_W.tl rfl rfl ?_ | refine pm_W.get rfl rfl h1 rfl ?_))
  refine pm_W.callV rfl rfl rfl rfl (fr_ble rfl) h1 (fr_ble rfl) (ct_B_has hb' ?_)
  refine pm_W.ifz rfl (fun c => ?_) (fun c => ?_)
  · have c : ¬ fr_b (bt_has bs p) = 0 := c
    obtain ⟨j, hj, rfl⟩ := bt_has_nat (fr_b1 c) (by omega)
    (repeat (first | refine pm_W.ts rfl rfl ?_ | refine pm_W.tl rfl rfl ?_ | refine pm_W.get rfl rfl h1 rfl ?_))
    refine pm_W.iast (x := v &&& 255) rfl h2 (pm_ix_ok (j := j) (by omega) (by omega)) ?_
    (repeat (first | refine pm_W.ts rfl rfl ?_ | refine pm_W.tl rfl rfl ?_))
    refine pm_W.iret rfl rfl (k1 j _ hj rfl ⟨ys.set j (v &&& 255), ?_, fr_set h2, by rw [List.length_set]; exact h3, ?_, by rw [List.length_set]; exact h5, h6⟩ (fr_agset (by omega) (by omega)))
    · rw [List.length_set]
      exact fr_ne h1 (by omega)
    · rw [List.length_set, List.take_set, h4]
  · have c : ¬ ¬ fr_b (bt_has bs p) = 0 := c
    (repeat (first | refine pm_W.ts rfl rfl ?_ | refine pm_W.tl rfl rfl ?_ | refine pm_W.get rfl rfl h1 rfl ?_))
    exact pm_W.iret rfl rfl (k0 (fr_b0 (Classical.not_not.mp c)))
theorem bt_take {ys : List Int32} {x : Int32} (h4 : ys.take bs.length = bs) (hl : bs.length < ys.length) : (ys.set bs.length x).take (bs ++ [x]).length = bs ++ [x] := by
  rw [List.length_append, List.length_singleton, List.take_add_one, List.getElem?_set_self hl, List.take_set, h4, List.set_eq_of_length_le (Nat.le_refl _)]
  rfl
theorem ct_B_add (hb : bt_R h a room bs) {v : Int32} (k0 : bs.length = room → Q (some (.int 0)) h) (k1 : bs.length < room → ∀ h' : pm_H, bt_R h' a room (bs ++ [v &&& 255]) → fr_ag a (a + 2) h h' → Q (some (.int 1)) h') : pm_X xs 0 mB_add [.ref a, .int v] h Q := by
  obtain ⟨ys, h1, h2, h3, h4, h5, h6⟩ := hb
  unfold pm_X
  (repeat (first | refine pm_W.ts rfl rfl ?_ | refine pm_W.tl rfl rfl ?_ | refine pm_W.get rfl rfl h1 rfl ?_))
  refine pm_W.alen rfl h2 ?_
  refine pm_W.icmp rfl (fun c => ?_) (fun c => ?_)
  · have c : nI bs.length < nI ys.length := c
    rw [nI_ltI (by omega) (by omega)] at c
    (repeat (first | refine pm_W.ts rfl rfl ?_ | refine pm_W.tl rfl rfl ?_ | refine pm_W.get rfl rfl h1 rfl ?_))
    refine pm_W.iast (x := v &&& 255) rfl h2 (pm_ix_ok (j := bs.length) (by omega) (by omega)) ?_
    have h1' := fr_ne (c := .inl (false, ys.set bs.length (v &&& 255))) h1 (show a + 1 ≠ a by omega)
    (repeat (first | refine pm_W.ts rfl rfl ?_ | refine pm_W.tl rfl rfl ?_ | refine pm_W.get rfl rfl h1' rfl ?_))
    refine pm_W.put (v := .int (nI bs.length + 1)) rfl rfl h1' (fr_ble rfl) rfl (Or.inl rfl) ?_
    (repeat (first | refine pm_W.ts rfl rfl ?_ | refine pm_W.tl rfl rfl ?_))
    refine pm_W.iret rfl rfl (k1 (by omega) _ ⟨ys.set bs.length (v &&& 255), ?_, ?_, by rw [List.length_set]; exact h3, bt_take h4 c, by simp; omega, h6⟩ ((fr_agset (by omega) (by omega)).tr (fr_agset (by omega) (by omega))))
    · refine (fr_set h1').trans ?_
      rw [List.length_append, List.length_singleton, ← nI_1]
      rfl
    · exact fr_ne (fr_set h2) (by omega)
  · have c : ¬ nI bs.length < nI ys.length := c
    rw [nI_ltI (by omega) (by omega)] at c
    (repeat (first | refine pm_W.ts rfl rfl ?_ | refine pm_W.tl rfl rfl ?_ | refine pm_W.get rfl rfl h1 rfl ?_))
    exact pm_W.iret rfl rfl (k0 (by omega))
theorem ct_B_clear (hb : bt_R h a room bs) (k : ∀ h' : pm_H, bt_R h' a room [] → fr_ag a (a + 2) h h' → Q none h') : pm_X xs 0 mB_clear [.ref a] h Q := by
  obtain ⟨ys, h1, h2, h3, h4, h5, h6⟩ := hb
  unfold pm_X
  (repeat (first | refine pm_W.ts rfl rfl ?_ | refine pm_W.tl rfl rfl ?_))
  refine pm_W.put (v := .int (nI 0)) rfl rfl h1 (fr_ble rfl) rfl (Or.inl rfl) ?_
  exact pm_W.ret rfl rfl (k _ ⟨ys, fr_set h1, fr_ne h2 (by omega), h3, rfl, Nat.zero_le _, h6⟩ (fr_agset (by omega) (by omega)))
theorem ct_B_keepFirst (hb : bt_R h a room bs) {p : Int32} (k0 : ¬ (0 ≤ p ∧ p ≤ nI bs.length) → Q (some (.int 0)) h) (k1 : ∀ (j : Nat) (h' : pm_H), j ≤ bs.length → p = nI j → bt_R h' a room (bs.take j) → fr_ag a (a + 2) h h' → Q (some (.int 1)) h') : pm_X xs 0 mB_keepFirst [.ref a, .int p] h Q := by
  obtain ⟨ys, h1, h2, h3, h4, h5, h6⟩ := hb
  unfold pm_X
  (repeat (first | refine pm_W.ts rfl rfl ?_ | refine pm_W.tl rfl rfl ?_ | refine pm_W.get rfl rfl h1 rfl ?_))
  refine pm_W.ifz rfl (fun c => ?_) (fun c => ?_)
  · have c : p < 0 := c
    (repeat (first | refine pm_W.ts rfl rfl ?_ | refine pm_W.tl rfl rfl ?_ | refine pm_W.get rfl rfl h1 rfl ?_))
    exact pm_W.iret rfl rfl (k0 (fun z => by have z := z.1; rw [fr_le] at z; rw [fr_lt] at c; omega))
  · have c : ¬ p < 0 := c
    (repeat (first | refine pm_W.ts rfl rfl ?_ | refine pm_W.tl rfl rfl ?_ | refine pm_W.get rfl rfl h1 rfl ?_))
    refine pm_W.icmp rfl (fun c2 => ?_) (fun c2 => ?_)
    · have c2 : p ≤ nI bs.length := c2
      obtain ⟨j, hj, rfl⟩ := fr_nat (fr_nlt c)
      have c3 := (nI_leI hj (by omega)).mp c2
      (repeat (first | refine pm_W.ts rfl rfl ?_ | refine pm_W.tl rfl rfl ?_))
      refine pm_W.put (v := .int (nI j)) rfl rfl h1 (fr_ble rfl) rfl (Or.inl rfl) ?_
      (repeat (first | refine pm_W.ts rfl rfl ?_ | refine pm_W.tl rfl rfl ?_))
      refine pm_W.iret rfl rfl (k1 j _ c3 rfl ⟨ys, ?_, fr_ne h2 (by omega), h3, ?_, ?_, h6⟩ (fr_agset (by omega) (by omega)))
      · rw [List.length_take, Nat.min_eq_left c3]
        exact fr_set h1
      · have e1 : bs.take j = (ys.take bs.length).take j := by rw [h4]
        rw [List.length_take, Nat.min_eq_left c3, e1, List.take_take, Nat.min_eq_left c3]
      · rw [List.length_take]; omega
    · have c2 : ¬ p ≤ nI bs.length := c2
      (repeat (first | refine pm_W.ts rfl rfl ?_ | refine pm_W.tl rfl rfl ?_ | refine pm_W.get rfl rfl h1 rfl ?_))
      exact pm_W.iret rfl rfl (k0 (fun z => c2 z.2))
def bt_from (os : List Int32) (s : Int32) (n : Nat) : List Int32 := (List.range n).map fun i => bt_at os (s + nI i) &&& 255
theorem bt_from_succ {os : List Int32} {s : Int32} {n : Nat} : bt_from os s (n + 1) = bt_from os s n ++ [bt_at os (s + nI n) &&& 255] := by
  simp [bt_from, List.range_succ]
theorem bt_from_len {os : List Int32} {s : Int32} {n : Nat} : (bt_from os s n).length = n := by
  simp [bt_from]
theorem ct_B_addFrom {o ro : Nat} {os : List Int32} {s : Int32} {n : Nat} (hb : bt_R h a room bs) (ho : bt_R h o ro os) (hd : a + 2 ≤ o ∨ o + 2 ≤ a) (hn : bs.length + n ≤ room) (k : ∀ h' : pm_H, bt_R h' a room (bs ++ bt_from os s n) → fr_ag a (a + 2) h h' → Q none h') : pm_X xs 2 mB_addFrom [.ref a, .ref o, .int s, .int (nI n)] h Q := by
  have hroom : room ≤ 1000 := by obtain ⟨ys, h1, h2, h3, h4, h5, h6⟩ := hb; exact h6
  have loop : ∀ (r i : Nat) (h1 : pm_H), i + r = n → bt_R h1 a room (bs ++ bt_from os s i) → fr_ag a (a + 2) h h1 → pm_W xs 2 mB_addFrom 3 [.ref a, .ref o, .int s, .int (nI n), .int (nI i)] [] h1 Q := by
    intro r
    induction r with
    | zero =>
      intro i h1 hi hb1 hag
      (repeat (first | refine pm_W.ts rfl rfl ?_ | refine pm_W.tl rfl rfl ?_))
      refine pm_W.icmp rfl (fun c => ?_) (fun c => ?_)
      · have hi : i = n := by omega
        subst hi
        exact pm_W.ret rfl rfl (k h1 hb1 hag)
      · have c : ¬ nI n ≤ nI i := c
        rw [nI_leI (by omega) (by omega)] at c
        omega
    | succ r ih =>
      intro i h1 hi hb1 hag
      (repeat (first | refine pm_W.ts rfl rfl ?_ | refine pm_W.tl rfl rfl ?_))
      refine pm_W.icmp rfl (fun c => ?_) (fun c => ?_)
      · have c : nI n ≤ nI i := c
        rw [nI_leI (by omega) (by omega)] at c
        omega
      · (repeat (first | refine pm_W.ts rfl rfl ?_ | refine pm_W.tl rfl rfl ?_))
        have ho1 := ho.ag hag (by omega)
        obtain ⟨zs, o1, -⟩ := id ho1
        refine pm_W.callV rfl rfl rfl rfl (fr_ble rfl) o1 (fr_ble rfl) (ct_B_at ho1 ?_)
        obtain ⟨ws, b1, -⟩ := id hb1
        refine pm_W.callV (d' := 0) rfl rfl rfl rfl (fr_ble rfl) b1 (fr_ble rfl) (ct_B_add hb1 (fun z => ?_) (fun _ h2 hb2 hag2 => ?_))
        · rw [List.length_append, bt_from_len] at z
          omega
        · (repeat (first | refine pm_W.ts rfl rfl ?_ | refine pm_W.tl rfl rfl ?_))
          refine pm_W.goto rfl ?_
          rw [List.append_assoc, ← bt_from_succ] at hb2
          have := ih (i + 1) h2 (by omega) hb2 (hag.tr hag2)
          rw [← fr_inc] at this
          exact this
  unfold pm_X
  (iterate 2 (first | refine pm_W.ts rfl rfl ?_ | refine pm_W.tl rfl rfl ?_))
  exact loop n 0 h (by omega) (by simpa [bt_from] using hb) fr_ag.rf
theorem bt_at_app {cs : List Int32} {j : Nat} (hj : j < bs.length) (hl : (bs ++ cs).length ≤ 1000) : bt_at (bs ++ cs) (nI j) = bt_at bs (nI j) := by
  rw [List.length_append] at hl
  rw [bt_at_nat (by rw [List.length_append]; omega) (by rw [List.length_append]; omega), bt_at_nat hj (by omega), List.getD_eq_getElem?_getD, List.getD_eq_getElem?_getD, List.getElem?_append_left hj]
theorem ct_B_addSelf {s n : Nat} (hb : bt_R h a room bs) (hs : s + n ≤ bs.length) (hn : bs.length + n ≤ room) (k : ∀ h' : pm_H, bt_R h' a room (bs ++ bt_from bs (nI s) n) → fr_ag a (a + 2) h h' → Q none h') : pm_X xs 2 mB_addFrom [.ref a, .ref a, .int (nI s), .int (nI n)] h Q := by
  have hroom : room ≤ 1000 := by obtain ⟨ys, h1, h2, h3, h4, h5, h6⟩ := hb; exact h6
  have loop : ∀ (r i : Nat) (h1 : pm_H), i + r = n → bt_R h1 a room (bs ++ bt_from bs (nI s) i) → fr_ag a (a + 2) h h1 → pm_W xs 2 mB_addFrom 3 [.ref a, .ref a, .int (nI s), .int (nI n), .int (nI i)] [] h1 Q := by
    intro r
    induction r with
    | zero =>
      intro i h1 hi hb1 hag
      (repeat (first | refine pm_W.ts rfl rfl ?_ | refine pm_W.tl rfl rfl ?_))
      refine pm_W.icmp rfl (fun c => ?_) (fun c => ?_)
      · have hi : i = n := by omega
        subst hi
        exact pm_W.ret rfl rfl (k h1 hb1 hag)
      · have c : ¬ nI n ≤ nI i := c
        rw [nI_leI (by omega) (by omega)] at c
        omega
    | succ r ih =>
      intro i h1 hi hb1 hag
      (repeat (first | refine pm_W.ts rfl rfl ?_ | refine pm_W.tl rfl rfl ?_))
      refine pm_W.icmp rfl (fun c => ?_) (fun c => ?_)
      · have c : nI n ≤ nI i := c
        rw [nI_leI (by omega) (by omega)] at c
        omega
      · (repeat (first | refine pm_W.ts rfl rfl ?_ | refine pm_W.tl rfl rfl ?_))
        obtain ⟨ws, b1, -⟩ := id hb1
        refine pm_W.callV rfl rfl rfl rfl (fr_ble rfl) b1 (fr_ble rfl) (ct_B_at hb1 ?_)
        refine pm_W.callV (d' := 0) rfl rfl rfl rfl (fr_ble rfl) b1 (fr_ble rfl) (ct_B_add hb1 (fun z => ?_) (fun _ h2 hb2 hag2 => ?_))
        · rw [List.length_append, bt_from_len] at z
          omega
        · (repeat (first | refine pm_W.ts rfl rfl ?_ | refine pm_W.tl rfl rfl ?_))
          refine pm_W.goto rfl ?_
          rw [nI_add, bt_at_app (by omega) (by rw [List.length_append, bt_from_len]; omega), ← nI_add, List.append_assoc, ← bt_from_succ] at hb2
          have := ih (i + 1) h2 (by omega) hb2 (hag.tr hag2)
          rw [← fr_inc] at this
          exact this
  unfold pm_X
  (iterate 2 (first | refine pm_W.ts rfl rfl ?_ | refine pm_W.tl rfl rfl ?_))
  exact loop n 0 h (by omega) (by simpa [bt_from] using hb) fr_ag.rf
def bt_fold (os : List Int32) (s : Int32) : Nat → Int32
  | 0 => 17
  | n + 1 => (bt_fold os s n ^^^ bt_at os (s + nI n)) * 16777619
def bt_mix (x : Int32) : Int32 := x ^^^ pm_ushr x 16
def bt_id (os : List Int32) (s : Int32) (n : Nat) : Int32 := bt_mix (bt_fold os s n)
theorem ct_B_idOf {s : Int32} {n : Nat} (hb : bt_R h a room bs) (hn : n ≤ 1000) (k : Q (some (.int (bt_id bs s n))) h) : pm_X xs 2 mB_idOf [.ref a, .int s, .int (nI n)] h Q := by
  obtain ⟨ys, b1, -⟩ := id hb
  have loop : ∀ (r i : Nat), i + r = n → pm_W xs 2 mB_idOf 6 [.ref a, .int s, .int (nI n), .int (bt_fold bs s i), .int (nI i)] [] h Q := by
    intro r
    induction r with
    | zero =>
      intro i hi
      (repeat (first | refine pm_W.ts rfl rfl ?_ | refine pm_W.tl rfl rfl ?_))
      refine pm_W.icmp rfl (fun c => ?_) (fun c => ?_)
      · have hi : i = n := by omega
        subst hi
        (repeat (first | refine pm_W.ts rfl rfl ?_ | refine pm_W.tl rfl rfl ?_))
        exact pm_W.iret rfl rfl k
      · have c : ¬ nI n ≤ nI i := c
        rw [nI_leI (by omega) (by omega)] at c
        omega
    | succ r ih =>
      intro i hi
      (repeat (first | refine pm_W.ts rfl rfl ?_ | refine pm_W.tl rfl rfl ?_))
      refine pm_W.icmp rfl (fun c => ?_) (fun c => ?_)
      · have c : nI n ≤ nI i := c
        rw [nI_leI (by omega) (by omega)] at c
        omega
      · (repeat (first | refine pm_W.ts rfl rfl ?_ | refine pm_W.tl rfl rfl ?_))
        refine pm_W.callV rfl rfl rfl rfl (fr_ble rfl) b1 (fr_ble rfl) (ct_B_at hb ?_)
        (repeat (first | refine pm_W.ts rfl rfl ?_ | refine pm_W.tl rfl rfl ?_))
        refine pm_W.ldc rfl rfl ?_
        (repeat (first | refine pm_W.ts rfl rfl ?_ | refine pm_W.tl rfl rfl ?_))
        refine pm_W.goto rfl ?_
        have := ih (i + 1) (by omega)
        rw [← fr_inc] at this
        exact this
  unfold pm_X
  (iterate 4 (first | refine pm_W.ts rfl rfl ?_ | refine pm_W.tl rfl rfl ?_))
  exact loop n 0 (by omega)
end BYTES
