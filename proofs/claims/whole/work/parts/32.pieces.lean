def pl_R (h : pm_H) (a : Nat) (ps : List (Nat × Int32)) : Prop := ∃ es is : List Int32, h.1[a]? = some (.inr (.inr (kP, [.ref (a + 1), .ref (a + 2), .int (nI ps.length)]))) ∧ h.1[a + 1]? = some (.inl (false, es)) ∧ h.1[a + 2]? = some (.inl (false, is)) ∧
  es.length = 15 ∧ is.length = 15 ∧ es.take ps.length = ps.map (fun q => nI q.1) ∧ is.take ps.length = ps.map (fun q => q.2) ∧ ps.length ≤ 15
def pl_e (ps : List (Nat × Int32)) (j : Nat) : Nat := (ps.getD j (0, 0)).1
def pl_i (ps : List (Nat × Int32)) (j : Nat) : Int32 := (ps.getD j (0, 0)).2
def pl_s (ps : List (Nat × Int32)) (j : Nat) : Nat := match j with
  | 0 => 0
  | j + 1 => pl_e ps j
def pl_has (ps : List (Nat × Int32)) (p : Int32) : Bool := decide (0 ≤ p ∧ p < nI ps.length)
theorem pl_R.keep {h h' : pm_H} {a : Nat} {ps : List (Nat × Int32)} (hb : pl_R h a ps) (e : ∀ k, a ≤ k → k < a + 3 → h'.1[k]? = h.1[k]?) : pl_R h' a ps := by
  obtain ⟨es, is, h1, h2, h3, h4⟩ := hb
  exact ⟨es, is, (e a (by omega) (by omega)).trans h1, (e (a + 1) (by omega) (by omega)).trans h2, (e (a + 2) (by omega) (by omega)).trans h3, h4⟩
theorem pl_R.ag {h h' : pm_H} {a lo hi : Nat} {ps : List (Nat × Int32)} (hb : pl_R h a ps) (e : fr_ag lo hi h h') (hd : a + 3 ≤ lo ∨ hi ≤ a) : pl_R h' a ps := hb.keep fun k _ _ => e.2.2 k (by omega)
section PLIST
variable {xs : List Int32} {h : pm_H} {a : Nat} {ps : List (Nat × Int32)} {Q : Option Value → pm_H → Prop}
theorem pl_has_nat {p : Int32} (hp : pl_has ps p = true) (hl : ps.length ≤ 15) : ∃ j : Nat, j < ps.length ∧ p = nI j := by
  have h1 := of_decide_eq_true hp
  obtain ⟨j, hj, rfl⟩ := fr_nat h1.1
  exact ⟨j, (nI_ltI hj (by omega)).mp h1.2, rfl⟩
theorem pl_getE {es : List Int32} {j : Nat} (h4 : es.take ps.length = ps.map (fun q => nI q.1)) (hj : j < ps.length) : es.getD j 0 = nI (pl_e ps j) := by
  have h1 : (es.take ps.length)[j]? = some (nI (pl_e ps j)) := by
    rw [h4, List.getElem?_map, List.getElem?_eq_getElem hj]
    simp [pl_e, hj]
  rw [List.getElem?_take, if_pos hj] at h1
  rw [List.getD_eq_getElem?_getD, h1]
  rfl
theorem pl_getI {is : List Int32} {j : Nat} (h4 : is.take ps.length = ps.map (fun q => q.2)) (hj : j < ps.length) : is.getD j 0 = pl_i ps j := by
  have h1 : (is.take ps.length)[j]? = some (pl_i ps j) := by
    rw [h4, List.getElem?_map, List.getElem?_eq_getElem hj]
    simp [pl_i, hj]
  rw [List.getElem?_take, if_pos hj] at h1
  rw [List.getD_eq_getElem?_getD, h1]
  rfl
theorem ct_P_count (hb : pl_R h a ps) (k : Q (some (.int (nI ps.length))) h) : pm_X xs 0 mP_count [.ref a] h Q := by
  obtain ⟨es, is, h1, h2, h3, h4, h5, h6, h7, h8⟩ := hb
  unfold pm_X
  (repeat (first | refine pm_W.ts rfl rfl ?_ | refine pm_W.tl rfl rfl ?_ | refine pm_W.get rfl rfl h1 rfl ?_))
  exact pm_W.iret rfl rfl k
theorem ct_P_has (hb : pl_R h a ps) {p : Int32} (k : Q (some (.int (fr_b (pl_has ps p)))) h) : pm_X xs 0 mP_has [.ref a, .int p] h Q := by
  obtain ⟨es, is, h1, h2, h3, h4, h5, h6, h7, h8⟩ := hb
  unfold pm_X
  (repeat (first | refine pm_W.ts rfl rfl ?_ | refine pm_W.tl rfl rfl ?_ | refine pm_W.get rfl rfl h1 rfl ?_))
  refine pm_W.ifz rfl (fun c => ?_) (fun c => ?_)
  · have c : p < 0 := c
    (repeat (first | refine pm_W.ts rfl rfl ?_ | refine pm_W.tl rfl rfl ?_ | refine pm_W.get rfl rfl h1 rfl ?_))
    refine pm_W.iret rfl rfl ?_
    rw [fr_bf (show pl_has ps p = false from decide_eq_false (fun z => by have z := z.1; rw [fr_le] at z; rw [fr_lt] at c; omega))] at k
    exact k
  · have c : ¬ p < 0 := c
    (repeat (first | refine pm_W.ts rfl rfl ?_ | refine pm_W.tl rfl rfl ?_ | refine pm_W.get rfl rfl h1 rfl ?_))
    refine pm_W.icmp rfl (fun c2 => ?_) (fun c2 => ?_)
    · have c2 : nI ps.length ≤ p := c2
      (repeat (first | refine pm_W.ts rfl rfl ?_ | refine pm_W.tl rfl rfl ?_ | refine pm_W.get rfl rfl h1 rfl ?_))
      refine pm_W.iret rfl rfl ?_
      rw [fr_bf (show pl_has ps p = false from decide_eq_false (fun z => by have z := z.2; rw [fr_lt] at z; rw [fr_le] at c2; omega))] at k
      exact k
    · have c2 : ¬ nI ps.length ≤ p := c2
      (repeat (first | refine pm_W.ts rfl rfl ?_ | refine pm_W.tl rfl rfl ?_ | refine pm_W.get rfl rfl h1 rfl ?_))
      refine pm_W.goto rfl ?_
      refine pm_W.iret rfl rfl ?_
      rw [fr_bt (show pl_has ps p = true from decide_eq_true ⟨fr_nlt c, fr_nle c2⟩)] at k
      exact k
theorem pl_e_out {j : Nat} (hj : ps.length ≤ j) : pl_e ps j = 0 := by
  unfold pl_e
  rw [List.getD_eq_getElem?_getD, List.getElem?_eq_none hj]
  rfl
theorem ct_P_endOf (hb : pl_R h a ps) {j : Nat} (hj : j < 2 ^ 31) (k : Q (some (.int (nI (pl_e ps j)))) h) : pm_X xs 0 mP_endOf [.ref a, .int (nI j)] h Q := by
  obtain ⟨es, is, h1, h2, h3, h4, h5, h6, h7, h8⟩ := hb
  unfold pm_X
  (repeat (first | refine pm_W.ts rfl rfl ?_ | refine pm_W.tl rfl rfl ?_ | refine pm_W.get rfl rfl h1 rfl ?_))
  refine pm_W.ifz rfl (fun c => ?_) (fun c => ?_)
  · exact absurd c (nI_pos hj)
  · (repeat (first | refine pm_W.ts rfl rfl ?_ | refine pm_W.tl rfl rfl ?_ | refine pm_W.get rfl rfl h1 rfl ?_))
    refine pm_W.icmp rfl (fun c2 => ?_) (fun c2 => ?_)
    · have c2 : nI ps.length ≤ nI j := c2
      rw [nI_leI (by omega) hj] at c2
      (repeat (first | refine pm_W.ts rfl rfl ?_ | refine pm_W.tl rfl rfl ?_ | refine pm_W.get rfl rfl h1 rfl ?_))
      refine pm_W.iret rfl rfl ?_
      rw [pl_e_out c2] at k
      exact k
    · have c2 : ¬ nI ps.length ≤ nI j := c2
      rw [nI_leI (by omega) hj] at c2
      (repeat (first | refine pm_W.ts rfl rfl ?_ | refine pm_W.tl rfl rfl ?_ | refine pm_W.get rfl rfl h1 rfl ?_))
      refine pm_W.iald rfl h2 (pm_ix_ok (j := j) (by omega) (by omega)) ?_
      refine pm_W.goto rfl ?_
      refine pm_W.iret rfl rfl ?_
      rw [pl_getE h6 (by omega)]
      exact k
theorem ct_P_endOfN (hb : pl_R h a ps) (k : Q (some (.int 0)) h) : pm_X xs 0 mP_endOf [.ref a, .int (-1)] h Q := by
  obtain ⟨es, is, h1, h2, h3, h4, h5, h6, h7, h8⟩ := hb
  unfold pm_X
  (repeat (first | refine pm_W.ts rfl rfl ?_ | refine pm_W.tl rfl rfl ?_ | refine pm_W.get rfl rfl h1 rfl ?_))
  refine pm_W.ifz rfl (fun c => ?_) (fun c => ?_)
  · (repeat (first | refine pm_W.ts rfl rfl ?_ | refine pm_W.tl rfl rfl ?_ | refine pm_W.get rfl rfl h1 rfl ?_))
    exact pm_W.iret rfl rfl k
  · exact absurd (show (-1 : Int32) < 0 by decide) c
theorem ct_P_startOf (hb : pl_R h a ps) {j : Nat} (hj : j < 2 ^ 31) (k : Q (some (.int (nI (pl_s ps j)))) h) : pm_X xs 1 mP_startOf [.ref a, .int (nI j)] h Q := by
  obtain ⟨es, is, h1, -⟩ := id hb
  unfold pm_X
  (repeat (first | refine pm_W.ts rfl rfl ?_ | refine pm_W.tl rfl rfl ?_))
  cases j with
  | zero =>
    refine pm_W.callV (as := [.int (-1)]) rfl rfl rfl rfl (fr_ble rfl) h1 (fr_ble rfl) (ct_P_endOfN hb ?_)
    exact pm_W.iret rfl rfl k
  | succ j =>
    have e : nI (j + 1) - Int32.ofInt 1 = nI j := nI_pred j
    rw [e]
    refine pm_W.callV rfl rfl rfl rfl (fr_ble rfl) h1 (fr_ble rfl) (ct_P_endOf hb (by omega) ?_)
    exact pm_W.iret rfl rfl k
theorem ct_P_lengthOf (hb : pl_R h a ps) {j : Nat} (hj : j < 2 ^ 31) (k : Q (some (.int (nI (pl_e ps j) - nI (pl_s ps j)))) h) : pm_X xs 2 mP_lengthOf [.ref a, .int (nI j)] h Q := by
  obtain ⟨es, is, h1, -⟩ := id hb
  unfold pm_X
  (repeat (first | refine pm_W.ts rfl rfl ?_ | refine pm_W.tl rfl rfl ?_))
  refine pm_W.callV (d' := 0) rfl rfl rfl rfl (fr_ble rfl) h1 (fr_ble rfl) (ct_P_endOf hb hj ?_)
  (repeat (first | refine pm_W.ts rfl rfl ?_ | refine pm_W.tl rfl rfl ?_))
  refine pm_W.callV rfl rfl rfl rfl (fr_ble rfl) h1 (fr_ble rfl) (ct_P_startOf hb hj ?_)
  (repeat (first | refine pm_W.ts rfl rfl ?_ | refine pm_W.tl rfl rfl ?_))
  exact pm_W.iret rfl rfl k
theorem ct_P_idOf (hb : pl_R h a ps) {j : Nat} (hj : j < ps.length) (k : Q (some (.int (pl_i ps j))) h) : pm_X xs 1 mP_idOf [.ref a, .int (nI j)] h Q := by
  have hb' := hb
  obtain ⟨es, is, h1, h2, h3, h4, h5, h6, h7, h8⟩ := hb
  unfold pm_X
  (repeat (first | refine pm_W.ts rfl rfl ?_ | refine pm_W.tl rfl rfl ?_))
  refine pm_W.callV rfl rfl rfl rfl (fr_ble rfl) h1 (fr_ble rfl) (ct_P_has hb' ?_)
  refine pm_W.ifz rfl (fun c => ?_) (fun c => ?_)
  · have c := fr_b0 c
    exact absurd (show pl_has ps (nI j) = true from decide_eq_true ⟨nI_pos' (by omega), nI_lt hj (by omega)⟩) (by rw [c]; decide)
  · (repeat (first | refine pm_W.ts rfl rfl ?_ | refine pm_W.tl rfl rfl ?_ | refine pm_W.get rfl rfl h1 rfl ?_))
    refine pm_W.iald rfl h3 (pm_ix_ok (j := j) (by omega) (by omega)) ?_
    refine pm_W.goto rfl ?_
    refine pm_W.iret rfl rfl ?_
    rw [pl_getI h7 hj]
    exact k
theorem ct_P_clear (hb : pl_R h a ps) (k : ∀ h' : pm_H, pl_R h' a [] → fr_ag a (a + 3) h h' → Q none h') : pm_X xs 0 mP_clear [.ref a] h Q := by
  obtain ⟨es, is, h1, h2, h3, h4, h5, h6, h7, h8⟩ := hb
  unfold pm_X
  (repeat (first | refine pm_W.ts rfl rfl ?_ | refine pm_W.tl rfl rfl ?_))
  refine pm_W.put (v := .int (nI 0)) rfl rfl h1 (fr_ble rfl) rfl (Or.inl rfl) ?_
  exact pm_W.ret rfl rfl (k _ ⟨es, is, fr_set h1, fr_ne h2 (by omega), fr_ne h3 (by omega), h4, h5, rfl, rfl, Nat.zero_le _⟩ (fr_agset (by omega) (by omega)))
theorem fr_take {α : Type} {ys bs : List α} {x : α} {n : Nat} (hn : bs.length = n) (h4 : ys.take n = bs) (hl : n < ys.length) : (ys.set n x).take (n + 1) = bs ++ [x] := by
  rw [List.take_add_one, List.getElem?_set_self hl, List.take_set, h4, List.set_eq_of_length_le (by omega)]
  rfl
theorem ct_P_add (hb : pl_R h a ps) {e : Nat} {i : Int32} (hl : ps.length < 15) (k : ∀ h' : pm_H, pl_R h' a (ps ++ [(e, i)]) → fr_ag a (a + 3) h h' → Q none h') : pm_X xs 0 mP_add [.ref a, .int (nI e), .int i] h Q := by
  obtain ⟨es, is, h1, h2, h3, h4, h5, h6, h7, h8⟩ := hb
  unfold pm_X
  (repeat (first | refine pm_W.ts rfl rfl ?_ | refine pm_W.tl rfl rfl ?_ | refine pm_W.get rfl rfl h1 rfl ?_))
  refine pm_W.icmp rfl (fun c => ?_) (fun c => ?_)
  · have c : nI 15 ≤ nI ps.length := c
    rw [nI_leI (by omega) (by omega)] at c
    omega
  · (repeat (first | refine pm_W.ts rfl rfl ?_ | refine pm_W.tl rfl rfl ?_ | refine pm_W.get rfl rfl h1 rfl ?_))
    refine pm_W.iast rfl h2 (pm_ix_ok (j := ps.length) (by omega) (by omega)) ?_
    have h1a := fr_ne (c := .inl (false, es.set ps.length (nI e))) h1 (show a + 1 ≠ a by omega)
    have h3a := fr_ne (c := .inl (false, es.set ps.length (nI e))) h3 (show a + 1 ≠ a + 2 by omega)
    have h2a := fr_set (c := .inl (false, es.set ps.length (nI e))) h2
    (repeat (first | refine pm_W.ts rfl rfl ?_ | refine pm_W.tl rfl rfl ?_ | refine pm_W.get rfl rfl h1a rfl ?_))
    refine pm_W.iast rfl h3a (pm_ix_ok (j := ps.length) (by omega) (by omega)) ?_
    have h1b := fr_ne (c := .inl (false, is.set ps.length i)) h1a (show a + 2 ≠ a by omega)
    have h2b := fr_ne (c := .inl (false, is.set ps.length i)) h2a (show a + 2 ≠ a + 1 by omega)
    have h3b := fr_set (c := .inl (false, is.set ps.length i)) h3a
    (repeat (first | refine pm_W.ts rfl rfl ?_ | refine pm_W.tl rfl rfl ?_ | refine pm_W.get rfl rfl h1b rfl ?_))
    refine pm_W.put (v := .int (nI ps.length + 1)) rfl rfl h1b (fr_ble rfl) rfl (Or.inl rfl) ?_
    refine pm_W.ret rfl rfl (k _ ⟨es.set ps.length (nI e), is.set ps.length i, ?_, fr_ne h2b (by omega), fr_ne h3b (by omega), by rw [List.length_set]; exact h4, by rw [List.length_set]; exact h5, ?_, ?_, by simp; omega⟩ (((fr_agset (by omega) (by omega)).tr (fr_agset (by omega) (by omega))).tr (fr_agset (by omega) (by omega))))
    · refine (fr_set h1b).trans ?_
      rw [List.length_append, List.length_singleton, ← nI_1]
      rfl
    · rw [List.length_append, List.length_singleton, List.map_append]
      exact fr_take (by simp) h6 (by omega)
    · rw [List.length_append, List.length_singleton, List.map_append]
      exact fr_take (by simp) h7 (by omega)
theorem ct_P_firstWithId (hb : pl_R h a ps) {w : Int32} (k1 : ∀ i, i < ps.length → pl_i ps i = w → (∀ j, j < i → pl_i ps j ≠ w) → Q (some (.int (nI i))) h) (k0 : (∀ j, j < ps.length → pl_i ps j ≠ w) → Q (some (.int (-1))) h) : pm_X xs 0 mP_firstWithId [.ref a, .int w] h Q := by
  obtain ⟨es, is, h1, h2, h3, h4, h5, h6, h7, h8⟩ := hb
  have loop : ∀ (r i : Nat), i + r = ps.length → (∀ j, j < i → pl_i ps j ≠ w) → pm_W xs 0 mP_firstWithId 2 [.ref a, .int w, .int (nI i)] [] h Q := by
    intro r
    induction r with
    | zero =>
      intro i hi hj
      (repeat (first | refine pm_W.ts rfl rfl ?_ | refine pm_W.tl rfl rfl ?_ | refine pm_W.get rfl rfl h1 rfl ?_))
      refine pm_W.icmp rfl (fun c => ?_) (fun c => ?_)
      · (repeat (first | refine pm_W.ts rfl rfl ?_ | refine pm_W.tl rfl rfl ?_ | refine pm_W.get rfl rfl h1 rfl ?_))
        exact pm_W.iret rfl rfl (k0 (by rw [← hi]; exact hj))
      · have c : ¬ nI ps.length ≤ nI i := c
        rw [nI_leI (by omega) (by omega)] at c
        omega
    | succ r ih =>
      intro i hi hj
      (repeat (first | refine pm_W.ts rfl rfl ?_ | refine pm_W.tl rfl rfl ?_ | refine pm_W.get rfl rfl h1 rfl ?_))
      refine pm_W.icmp rfl (fun c => ?_) (fun c => ?_)
      · have c : nI ps.length ≤ nI i := c
        rw [nI_leI (by omega) (by omega)] at c
        omega
      · (repeat (first | refine pm_W.ts rfl rfl ?_ | refine pm_W.tl rfl rfl ?_ | refine pm_W.get rfl rfl h1 rfl ?_))
        refine pm_W.iald rfl h3 (pm_ix_ok (j := i) (by omega) (by omega)) ?_
        rw [pl_getI h7 (by omega)]
        (repeat (first | refine pm_W.ts rfl rfl ?_ | refine pm_W.tl rfl rfl ?_))
        refine pm_W.icmp rfl (fun c2 => ?_) (fun c2 => ?_)
        · have c2 : ¬ pl_i ps i = w := c2
          (repeat (first | refine pm_W.ts rfl rfl ?_ | refine pm_W.tl rfl rfl ?_))
          refine pm_W.goto rfl ?_
          have := ih (i + 1) (by omega) (fun j hj2 => by
            by_cases hji : j = i
            · rw [hji]; exact c2
            · exact hj j (by omega))
          rw [← fr_inc] at this
          exact this
        · have c2 : ¬ ¬ pl_i ps i = w := c2
          (repeat (first | refine pm_W.ts rfl rfl ?_ | refine pm_W.tl rfl rfl ?_))
          exact pm_W.iret rfl rfl (k1 i (by omega) (Classical.not_not.mp c2) hj)
  unfold pm_X
  (iterate 2 (first | refine pm_W.ts rfl rfl ?_ | refine pm_W.tl rfl rfl ?_))
  exact loop ps.length 0 (by omega) (fun j hj => by omega)
def pl_n (ps : List (Nat × Int32)) (j : Nat) : Int32 := nI (pl_e ps j) - nI (pl_s ps j)
theorem ct_P_firstLike (hb : pl_R h a ps) {w n : Int32} (k1 : ∀ i, i < ps.length → (pl_i ps i = w ∧ pl_n ps i = n) → (∀ j, j < i → ¬ (pl_i ps j = w ∧ pl_n ps j = n)) → Q (some (.int (nI i))) h) (k0 : (∀ j, j < ps.length → ¬ (pl_i ps j = w ∧ pl_n ps j = n)) → Q (some (.int (-1))) h) : pm_X xs 3 mP_firstLike [.ref a, .int w, .int n] h Q := by
  have hb' := hb
  obtain ⟨es, is, h1, h2, h3, h4, h5, h6, h7, h8⟩ := hb
  have loop : ∀ (r i : Nat), i + r = ps.length → (∀ j, j < i → ¬ (pl_i ps j = w ∧ pl_n ps j = n)) → pm_W xs 3 mP_firstLike 2 [.ref a, .int w, .int n, .int (nI i)] [] h Q := by
    intro r
    induction r with
    | zero =>
      intro i hi hj
      (repeat (first | refine pm_W.ts rfl rfl ?_ | refine pm_W.tl rfl rfl ?_ | refine pm_W.get rfl rfl h1 rfl ?_))
      refine pm_W.icmp rfl (fun c => ?_) (fun c => ?_)
      · (repeat (first | refine pm_W.ts rfl rfl ?_ | refine pm_W.tl rfl rfl ?_ | refine pm_W.get rfl rfl h1 rfl ?_))
        exact pm_W.iret rfl rfl (k0 (by rw [← hi]; exact hj))
      · have c : ¬ nI ps.length ≤ nI i := c
        rw [nI_leI (by omega) (by omega)] at c
        omega
    | succ r ih =>
      intro i hi hj
      have next : ¬ (pl_i ps i = w ∧ pl_n ps i = n) → pm_W xs 3 mP_firstLike 31 [.ref a, .int w, .int n, .int (nI i)] [] h Q := by
        intro c2
        (repeat (first | refine pm_W.ts rfl rfl ?_ | refine pm_W.tl rfl rfl ?_))
        refine pm_W.goto rfl ?_
        have := ih (i + 1) (by omega) (fun j hj2 => by
          by_cases hji : j = i
          · rw [hji]; exact c2
          · exact hj j (by omega))
        rw [← fr_inc] at this
        exact this
      (repeat (first | refine pm_W.ts rfl rfl ?_ | refine pm_W.tl rfl rfl ?_ | refine pm_W.get rfl rfl h1 rfl ?_))
      refine pm_W.icmp rfl (fun c => ?_) (fun c => ?_)
      · have c : nI ps.length ≤ nI i := c
        rw [nI_leI (by omega) (by omega)] at c
        omega
      · (repeat (first | refine pm_W.ts rfl rfl ?_ | refine pm_W.tl rfl rfl ?_ | refine pm_W.get rfl rfl h1 rfl ?_))
        refine pm_W.iald rfl h3 (pm_ix_ok (j := i) (by omega) (by omega)) ?_
        rw [pl_getI h7 (by omega)]
        (repeat (first | refine pm_W.ts rfl rfl ?_ | refine pm_W.tl rfl rfl ?_))
        refine pm_W.icmp rfl (fun c2 => ?_) (fun c2 => ?_)
        · have c2 : ¬ pl_i ps i = w := c2
          exact next (fun z => c2 z.1)
        · have c2 : ¬ ¬ pl_i ps i = w := c2
          (repeat (first | refine pm_W.ts rfl rfl ?_ | refine pm_W.tl rfl rfl ?_))
          refine pm_W.callV rfl rfl rfl rfl (fr_ble rfl) h1 (fr_ble rfl) (ct_P_lengthOf hb' (by omega) ?_)
          (repeat (first | refine pm_W.ts rfl rfl ?_ | refine pm_W.tl rfl rfl ?_))
          refine pm_W.icmp rfl (fun c3 => ?_) (fun c3 => ?_)
          · have c3 : ¬ pl_n ps i = n := c3
            exact next (fun z => c3 z.2)
          · have c3 : ¬ ¬ pl_n ps i = n := c3
            (repeat (first | refine pm_W.ts rfl rfl ?_ | refine pm_W.tl rfl rfl ?_))
            exact pm_W.iret rfl rfl (k1 i (by omega) ⟨Classical.not_not.mp c2, Classical.not_not.mp c3⟩ hj)
  unfold pm_X
  (iterate 2 (first | refine pm_W.ts rfl rfl ?_ | refine pm_W.tl rfl rfl ?_))
  exact loop ps.length 0 (by omega) (fun j hj => by omega)
end PLIST
