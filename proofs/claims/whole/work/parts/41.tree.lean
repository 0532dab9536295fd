abbrev tr_S : Type := List Nat × List Nat × List (Option Nat) × (Nat → List Int32)
def tr_pv : Option Nat → Int32
  | none => -1
  | some q => nI q
def tr_K (S : tr_S) (s : Nat) : Nat := S.1.getD s 0
def tr_N (S : tr_S) (s : Nat) : Nat := S.2.1.getD s 0
def tr_P (S : tr_S) (s : Nat) : Option Nat := S.2.2.1.getD s none
def tr_B (S : tr_S) (s : Nat) : List Int32 := S.2.2.2 s
def tr_ok (S : tr_S) : Prop := S.1.length = 11 ∧ S.2.1.length = 11 ∧ S.2.2.1.length = 11 ∧ (∀ s, tr_K S s ≤ 2) ∧ (∀ s, tr_N S s ≤ 31) ∧ (∀ s q, tr_P S s = some q → q ≤ 10)
def tr_row (a : Nat) : List (Option Nat) := (List.range 11).map fun s => some (a + 5 + 2 * s)
def tr_R (h : pm_H) (a : Nat) (S : tr_S) : Prop := h.1[a]? = some (.inr (.inr (kT, [.ref (a + 1), .ref (a + 2), .ref (a + 3), .ref (a + 4)]))) ∧ h.1[a + 1]? = some (.inl (false, S.1.map nI)) ∧ h.1[a + 2]? = some (.inl (false, S.2.1.map nI)) ∧ h.1[a + 3]? = some (.inl (false, S.2.2.1.map tr_pv)) ∧ h.1[a + 4]? = some (.inr (.inl (kB, tr_row a))) ∧
  (∀ s, s < 11 → bt_R h (a + 5 + 2 * s) 16 (tr_B S s)) ∧ tr_ok S
theorem tr_R.keep {h h' : pm_H} {a : Nat} {S : tr_S} (hb : tr_R h a S) (e : ∀ k, a ≤ k → k < a + 27 → h'.1[k]? = h.1[k]?) : tr_R h' a S := by
  obtain ⟨h1, h2, h3, h4, h5, h6, h7⟩ := hb
  exact ⟨(e a (by omega) (by omega)).trans h1, (e (a + 1) (by omega) (by omega)).trans h2, (e (a + 2) (by omega) (by omega)).trans h3, (e (a + 3) (by omega) (by omega)).trans h4, (e (a + 4) (by omega) (by omega)).trans h5, fun s hs => (h6 s hs).keep fun k _ _ => e k (by omega) (by omega), h7⟩
theorem tr_R.ag {h h' : pm_H} {a lo hi : Nat} {S : tr_S} (hb : tr_R h a S) (e : fr_ag lo hi h h') (hd : a + 27 ≤ lo ∨ hi ≤ a) : tr_R h' a S := hb.keep fun k _ _ => e.2.2 k (by omega)
theorem fr_mapD {l : List Nat} {s : Nat} : (l.map nI).getD s 0 = nI (l.getD s 0) := by
  rw [List.getD_eq_getElem?_getD, List.getElem?_map, List.getD_eq_getElem?_getD]
  cases l[s]? <;> rfl
theorem tr_mapP {l : List (Option Nat)} {s : Nat} (hs : s < l.length) : (l.map tr_pv).getD s 0 = tr_pv (l.getD s none) := by
  rw [List.getD_eq_getElem?_getD, List.getElem?_map, List.getD_eq_getElem?_getD, List.getElem?_eq_getElem hs]
  rfl
theorem tr_rowD {a s : Nat} (hs : s < 11) : (tr_row a).getD s none = some (a + 5 + 2 * s) := by
  simp [tr_row, hs]
theorem tr_row_len {a : Nat} : (tr_row a).length = 11 := by simp [tr_row]
theorem tr_pv_eq {o : Option Nat} {d : Nat} (ho : ∀ q, o = some q → q ≤ 10) (hd : d ≤ 10) : tr_pv o = nI d ↔ o = some d := by
  cases o with
  | none =>
    constructor
    · intro z
      have : (nI d).toInt = -1 := by rw [← z]; rfl
      rw [nI_toInt (by omega)] at this
      omega
    · intro z; cases z
  | some q =>
    have := ho q rfl
    show nI q = nI d ↔ _
    rw [nI_eq (by omega) (by omega)]
    constructor
    · intro z; rw [z]
    · intro z; cases z; rfl
theorem tr_pv_none {o : Option Nat} (ho : ∀ q, o = some q → q ≤ 10) : tr_pv o = -1 ↔ o = none := by
  cases o with
  | none => exact ⟨fun _ => rfl, fun _ => rfl⟩
  | some q =>
    have := ho q rfl
    constructor
    · intro z
      have z : nI q = -1 := z
      have : (nI q).toInt = -1 := by rw [z]; rfl
      rw [nI_toInt (by omega)] at this
      omega
    · intro z; cases z
def tr_c (S : tr_S) (d s : Nat) : Bool := decide (tr_K S s ≠ 0 ∧ tr_P S s = some d)
def tr_cnt (f : Nat → Bool) : Nat → Nat
  | 0 => 0
  | n + 1 => tr_cnt f n + (if f (n + 1) = true then 1 else 0)
def tr_sm (f : Nat → Bool) (g : Nat → Nat) : Nat → Nat
  | 0 => 0
  | n + 1 => tr_sm f g n + (if f (n + 1) = true then g (n + 1) else 0)
def tr_mx (f : Nat → Bool) (g : Nat → Nat) : Nat → Nat
  | 0 => 0
  | n + 1 => if f (n + 1) = true ∧ tr_mx f g n < g (n + 1) then g (n + 1) else tr_mx f g n
theorem tr_cnt_le {f : Nat → Bool} : ∀ n, tr_cnt f n ≤ n := by
  intro n
  induction n with
  | zero => exact Nat.le_refl _
  | succ n ih =>
    show _ + _ ≤ _
    split <;> omega
theorem tr_sm_le {f : Nat → Bool} {g : Nat → Nat} {b : Nat} (hg : ∀ s, g s ≤ b) : ∀ n, tr_sm f g n ≤ b * n := by
  intro n
  induction n with
  | zero => exact Nat.zero_le _
  | succ n ih =>
    have := hg (n + 1)
    show _ + _ ≤ _
    rw [Nat.mul_succ]
    split <;> omega
theorem tr_mx_le {f : Nat → Bool} {g : Nat → Nat} {b : Nat} (hg : ∀ s, g s ≤ b) : ∀ n, tr_mx f g n ≤ b := by
  intro n
  induction n with
  | zero => exact Nat.zero_le _
  | succ n ih =>
    have := hg (n + 1)
    unfold tr_mx
    split <;> omega
section TREE
variable {xs : List Int32} {h : pm_H} {a : Nat} {S : tr_S} {Q : Option Value → pm_H → Prop}
theorem ct_T_isSlot {s : Nat} (hs : s < 11) (k : Q (some (.int 1)) h) : pm_X xs 0 mT_isSlot [.int (nI s)] h Q := by
  unfold pm_X
  (repeat (first | refine pm_W.ts rfl rfl ?_ | refine pm_W.tl rfl rfl ?_))
  refine pm_W.ifz rfl (fun c => absurd c (nI_pos (by omega))) (fun c => ?_)
  (repeat (first | refine pm_W.ts rfl rfl ?_ | refine pm_W.tl rfl rfl ?_))
  refine pm_W.icmp rfl (fun c2 => ?_) (fun c2 => ?_)
  · have c2 : nI 11 ≤ nI s := c2
    rw [nI_leI (by omega) (by omega)] at c2
    omega
  · (repeat (first | refine pm_W.ts rfl rfl ?_ | refine pm_W.tl rfl rfl ?_))
    refine pm_W.goto rfl ?_
    exact pm_W.iret rfl rfl k
theorem ct_T_isSlotN (k : Q (some (.int 0)) h) : pm_X xs 0 mT_isSlot [.int (-1)] h Q := by
  unfold pm_X
  (repeat (first | refine pm_W.ts rfl rfl ?_ | refine pm_W.tl rfl rfl ?_))
  refine pm_W.ifz rfl (fun c => ?_) (fun c => absurd (show (-1 : Int32) < 0 by decide) c)
  (repeat (first | refine pm_W.ts rfl rfl ?_ | refine pm_W.tl rfl rfl ?_))
  exact pm_W.iret rfl rfl k
theorem ct_T_isChild {s d : Nat} (hb : tr_R h a S) (hs : s < 11) (hd : d ≤ 10) (k : Q (some (.int (fr_b (tr_c S d s)))) h) : pm_X xs 0 mT_isChild [.ref a, .int (nI s), .int (nI d)] h Q := by
  obtain ⟨h1, h2, h3, h4, h5, h6, l1, l2, l3, bK, bN, bP⟩ := hb
  unfold pm_X
  (repeat (first | refine pm_W.ts rfl rfl ?_ | refine pm_W.tl rfl rfl ?_ | refine pm_W.get rfl rfl h1 rfl ?_))
  refine pm_W.iald rfl h2 (pm_ix_ok (j := s) (by rw [List.length_map]; omega) (by rw [List.length_map]; omega)) ?_
  rw [fr_mapD]
  have hk := bK s
  refine pm_W.ifz rfl (fun c => ?_) (fun c => ?_)
  · have c : nI (tr_K S s) = nI 0 := c
    rw [nI_eq (by omega) (by omega)] at c
    (repeat (first | refine pm_W.ts rfl rfl ?_ | refine pm_W.tl rfl rfl ?_))
    rw [fr_bf (show tr_c S d s = false from decide_eq_false (fun z => z.1 c))] at k
    exact pm_W.iret rfl rfl k
  · have c : ¬ nI (tr_K S s) = nI 0 := c
    rw [nI_eq (by omega) (by omega)] at c
    (repeat (first | refine pm_W.ts rfl rfl ?_ | refine pm_W.tl rfl rfl ?_ | refine pm_W.get rfl rfl h1 rfl ?_))
    refine pm_W.iald rfl h4 (pm_ix_ok (j := s) (by rw [List.length_map]; omega) (by rw [List.length_map]; omega)) ?_
    rw [tr_mapP (by omega)]
    (repeat (first | refine pm_W.ts rfl rfl ?_ | refine pm_W.tl rfl rfl ?_))
    refine pm_W.icmp rfl (fun c2 => ?_) (fun c2 => ?_)
    · have c2 : ¬ tr_pv (tr_P S s) = nI d := c2
      rw [tr_pv_eq (bP s) hd] at c2
      (repeat (first | refine pm_W.ts rfl rfl ?_ | refine pm_W.tl rfl rfl ?_))
      rw [fr_bf (show tr_c S d s = false from decide_eq_false (fun z => c2 z.2))] at k
      exact pm_W.iret rfl rfl k
    · have c2 : ¬ ¬ tr_pv (tr_P S s) = nI d := c2
      have c2 := Classical.not_not.mp c2
      rw [tr_pv_eq (bP s) hd] at c2
      (repeat (first | refine pm_W.ts rfl rfl ?_ | refine pm_W.tl rfl rfl ?_))
      refine pm_W.goto rfl ?_
      rw [fr_bt (show tr_c S d s = true from decide_eq_true ⟨c, c2⟩)] at k
      exact pm_W.iret rfl rfl k
theorem ct_T_childNamed {d w : Nat} (hb : tr_R h a S) (hd : d ≤ 10) (hw : w ≤ 31) (k1 : ∀ s, 1 ≤ s → s ≤ 10 → tr_c S d s = true → tr_N S s = w → Q (some (.int (nI s))) h) (k0 : (∀ s, 1 ≤ s → s ≤ 10 → ¬ (tr_c S d s = true ∧ tr_N S s = w)) → Q (some (.int (-1))) h) : pm_X xs 1 mT_childNamed [.ref a, .int (nI d), .int (nI w)] h Q := by
  obtain ⟨h1, h2, h3, h4, h5, h6, l1, l2, l3, bK, bN, bP⟩ := id hb
  have loop : ∀ (r n : Nat), n + r = 10 → (∀ s, 1 ≤ s → s ≤ n → ¬ (tr_c S d s = true ∧ tr_N S s = w)) → pm_W xs 1 mT_childNamed 2 [.ref a, .int (nI d), .int (nI w), .int (nI (n + 1))] [] h Q := by
    intro r
    induction r with
    | zero =>
      intro n hn hj
      (repeat (first | refine pm_W.ts rfl rfl ?_ | refine pm_W.tl rfl rfl ?_))
      refine pm_W.icmp rfl (fun c => ?_) (fun c => ?_)
      · (repeat (first | refine pm_W.ts rfl rfl ?_ | refine pm_W.tl rfl rfl ?_))
        exact pm_W.iret rfl rfl (k0 (by rw [show n = 10 by omega] at hj; exact hj))
      · have c : ¬ nI 11 ≤ nI (n + 1) := c
        rw [nI_leI (by omega) (by omega)] at c
        omega
    | succ r ih =>
      intro n hn hj
      have next : ¬ (tr_c S d (n + 1) = true ∧ tr_N S (n + 1) = w) → pm_W xs 1 mT_childNamed 29 [.ref a, .int (nI d), .int (nI w), .int (nI (n + 1))] [] h Q := by
        intro c2
        (repeat (first | refine pm_W.ts rfl rfl ?_ | refine pm_W.tl rfl rfl ?_))
        refine pm_W.goto rfl ?_
        have := ih (n + 1) (by omega) (fun s hs1 hs2 => by
          by_cases e : s = n + 1
          · rw [e]; exact c2
          · exact hj s hs1 (by omega))
        rw [← fr_inc (n + 1)] at this
        exact this
      (repeat (first | refine pm_W.ts rfl rfl ?_ | refine pm_W.tl rfl rfl ?_))
      refine pm_W.icmp rfl (fun c => ?_) (fun c => ?_)
      · have c : nI 11 ≤ nI (n + 1) := c
        rw [nI_leI (by omega) (by omega)] at c
        omega
      · (repeat (first | refine pm_W.ts rfl rfl ?_ | refine pm_W.tl rfl rfl ?_))
        refine pm_W.callV rfl rfl rfl rfl (fr_ble rfl) h1 (fr_ble rfl) (ct_T_isChild hb (by omega) hd ?_)
        refine pm_W.ifz rfl (fun c2 => ?_) (fun c2 => ?_)
        · have c2 := fr_b0 c2
          exact next (fun z => by rw [c2] at z; cases z.1)
        · have c2 := fr_b1 c2
          (repeat (first | refine pm_W.ts rfl rfl ?_ | refine pm_W.tl rfl rfl ?_ | refine pm_W.get rfl rfl h1 rfl ?_))
          refine pm_W.iald rfl h3 (pm_ix_ok (j := n + 1) (by rw [List.length_map]; omega) (by rw [List.length_map]; omega)) ?_
          rw [fr_mapD]
          have hN := bN (n + 1)
          (repeat (first | refine pm_W.ts rfl rfl ?_ | refine pm_W.tl rfl rfl ?_))
          refine pm_W.icmp rfl (fun c3 => ?_) (fun c3 => ?_)
          · have c3 : ¬ nI (tr_N S (n + 1)) = nI w := c3
            rw [nI_eq (by omega) (by omega)] at c3
            exact next (fun z => c3 z.2)
          · have c3 : ¬ ¬ nI (tr_N S (n + 1)) = nI w := c3
            have c3 := Classical.not_not.mp c3
            rw [nI_eq (by omega) (by omega)] at c3
            (repeat (first | refine pm_W.ts rfl rfl ?_ | refine pm_W.tl rfl rfl ?_))
            exact pm_W.iret rfl rfl (k1 (n + 1) (by omega) (by omega) c2 c3)
  unfold pm_X
  (iterate 2 (first | refine pm_W.ts rfl rfl ?_ | refine pm_W.tl rfl rfl ?_))
  exact loop 10 0 (by omega) (fun s h1 h2 => by omega)
theorem ct_T_childrenOf {d : Nat} (hb : tr_R h a S) (hd : d ≤ 10) (k : Q (some (.int (nI (tr_cnt (tr_c S d) 10)))) h) : pm_X xs 1 mT_childrenOf [.ref a, .int (nI d)] h Q := by
  obtain ⟨h1, -⟩ := id hb
  have loop : ∀ (r n : Nat), n + r = 10 → pm_W xs 1 mT_childrenOf 4 [.ref a, .int (nI d), .int (nI (tr_cnt (tr_c S d) n)), .int (nI (n + 1))] [] h Q := by
    intro r
    induction r with
    | zero =>
      intro n hn
      (repeat (first | refine pm_W.ts rfl rfl ?_ | refine pm_W.tl rfl rfl ?_))
      refine pm_W.icmp rfl (fun c => ?_) (fun c => ?_)
      · (repeat (first | refine pm_W.ts rfl rfl ?_ | refine pm_W.tl rfl rfl ?_))
        rw [show n = 10 by omega]
        exact pm_W.iret rfl rfl k
      · have c : ¬ nI 11 ≤ nI (n + 1) := c
        rw [nI_leI (by omega) (by omega)] at c
        omega
    | succ r ih =>
      intro n hn
      have i1 := ih (n + 1) (by omega)
      (repeat (first | refine pm_W.ts rfl rfl ?_ | refine pm_W.tl rfl rfl ?_))
      refine pm_W.icmp rfl (fun c => ?_) (fun c => ?_)
      · have c : nI 11 ≤ nI (n + 1) := c
        rw [nI_leI (by omega) (by omega)] at c
        omega
      · (repeat (first | refine pm_W.ts rfl rfl ?_ | refine pm_W.tl rfl rfl ?_))
        refine pm_W.callV rfl rfl rfl rfl (fr_ble rfl) h1 (fr_ble rfl) (ct_T_isChild hb (by omega) hd ?_)
        refine pm_W.ifz rfl (fun c2 => ?_) (fun c2 => ?_)
        · have c2 := fr_b0 c2
          rw [show tr_cnt (tr_c S d) (n + 1) = tr_cnt (tr_c S d) n from by show _ + _ = _; rw [c2]; rfl, ← fr_inc (n + 1)] at i1
          (repeat (first | refine pm_W.ts rfl rfl ?_ | refine pm_W.tl rfl rfl ?_))
          refine pm_W.goto rfl ?_
          exact i1
        · have c2 := fr_b1 c2
          rw [show tr_cnt (tr_c S d) (n + 1) = tr_cnt (tr_c S d) n + 1 from by show _ + _ = _; rw [c2]; rfl, ← fr_inc (n + 1), ← fr_inc (tr_cnt (tr_c S d) n)] at i1
          (repeat (first | refine pm_W.ts rfl rfl ?_ | refine pm_W.tl rfl rfl ?_))
          refine pm_W.goto rfl ?_
          exact i1
  unfold pm_X
  (iterate 4 (first | refine pm_W.ts rfl rfl ?_ | refine pm_W.tl rfl rfl ?_))
  exact loop 10 0 (by omega)
theorem ct_T_greatestNameIn {d : Nat} (hb : tr_R h a S) (hd : d ≤ 10) (k : Q (some (.int (nI (tr_mx (tr_c S d) (tr_N S) 10)))) h) : pm_X xs 1 mT_greatestNameIn [.ref a, .int (nI d)] h Q := by
  obtain ⟨h1, h2, h3, h4, h5, h6, l1, l2, l3, bK, bN, bP⟩ := id hb
  have loop : ∀ (r n : Nat), n + r = 10 → pm_W xs 1 mT_greatestNameIn 4 [.ref a, .int (nI d), .int (nI (tr_mx (tr_c S d) (tr_N S) n)), .int (nI (n + 1))] [] h Q := by
    intro r
    induction r with
    | zero =>
      intro n hn
      (repeat (first | refine pm_W.ts rfl rfl ?_ | refine pm_W.tl rfl rfl ?_))
      refine pm_W.icmp rfl (fun c => ?_) (fun c => ?_)
      · (repeat (first | refine pm_W.ts rfl rfl ?_ | refine pm_W.tl rfl rfl ?_))
        rw [show n = 10 by omega]
        exact pm_W.iret rfl rfl k
      · have c : ¬ nI 11 ≤ nI (n + 1) := c
        rw [nI_leI (by omega) (by omega)] at c
        omega
    | succ r ih =>
      intro n hn
      have i1 := ih (n + 1) (by omega)
      (repeat (first | refine pm_W.ts rfl rfl ?_ | refine pm_W.tl rfl rfl ?_))
      refine pm_W.icmp rfl (fun c => ?_) (fun c => ?_)
      · have c : nI 11 ≤ nI (n + 1) := c
        rw [nI_leI (by omega) (by omega)] at c
        omega
      · (repeat (first | refine pm_W.ts rfl rfl ?_ | refine pm_W.tl rfl rfl ?_))
        refine pm_W.callV rfl rfl rfl rfl (fr_ble rfl) h1 (fr_ble rfl) (ct_T_isChild hb (by omega) hd ?_)
        refine pm_W.ifz rfl (fun c2 => ?_) (fun c2 => ?_)
        · have c2 := fr_b0 c2
          rw [show tr_mx (tr_c S d) (tr_N S) (n + 1) = tr_mx (tr_c S d) (tr_N S) n from by rw [tr_mx, if_neg (fun z => by rw [c2] at z; cases z.1)], ← fr_inc (n + 1)] at i1
          (repeat (first | refine pm_W.ts rfl rfl ?_ | refine pm_W.tl rfl rfl ?_))
          refine pm_W.goto rfl ?_
          exact i1
        · have c2 := fr_b1 c2
          (repeat (first | refine pm_W.ts rfl rfl ?_ | refine pm_W.tl rfl rfl ?_ | refine pm_W.get rfl rfl h1 rfl ?_))
          refine pm_W.iald rfl h3 (pm_ix_ok (j := n + 1) (by rw [List.length_map]; omega) (by rw [List.length_map]; omega)) ?_
          rw [fr_mapD]
          have hN := bN (n + 1)
          have hM := tr_mx_le (f := tr_c S d) (g := tr_N S) bN n
          refine pm_W.max rfl rfl rfl rfl ?_
          have e : (if nI (tr_mx (tr_c S d) (tr_N S) n) < nI (S.2.1.getD (n + 1) 0) then nI (S.2.1.getD (n + 1) 0) else nI (tr_mx (tr_c S d) (tr_N S) n)) = nI (tr_mx (tr_c S d) (tr_N S) (n + 1)) := by
            show (if nI (tr_mx (tr_c S d) (tr_N S) n) < nI (tr_N S (n + 1)) then nI (tr_N S (n + 1)) else _) = _
            rw [tr_mx]
            by_cases q : tr_mx (tr_c S d) (tr_N S) n < tr_N S (n + 1)
            · rw [if_pos (nI_lt q (by omega)), if_pos ⟨c2, q⟩]
            · rw [if_neg (fun z => q ((nI_ltI (by omega) (by omega)).mp z)), if_neg (fun z => q z.2)]
          rw [e]
          rw [← fr_inc (n + 1)] at i1
          (repeat (first | refine pm_W.ts rfl rfl ?_ | refine pm_W.tl rfl rfl ?_))
          refine pm_W.goto rfl ?_
          exact i1
  unfold pm_X
  (iterate 4 (first | refine pm_W.ts rfl rfl ?_ | refine pm_W.tl rfl rfl ?_))
  exact loop 10 0 (by omega)
def tr_u (S : tr_S) (s : Nat) : Bool := decide (tr_K S s ≠ 0)
def tr_f (S : tr_S) (s : Nat) : Bool := decide (tr_K S s = 1)
theorem ct_T_entries (hb : tr_R h a S) (k : Q (some (.int (nI (tr_cnt (tr_u S) 10)))) h) : pm_X xs 0 mT_entries [.ref a] h Q := by
  obtain ⟨h1, h2, h3, h4, h5, h6, l1, l2, l3, bK, bN, bP⟩ := id hb
  have loop : ∀ (r n : Nat), n + r = 10 → pm_W xs 0 mT_entries 4 [.ref a, .int (nI (tr_cnt (tr_u S) n)), .int (nI (n + 1))] [] h Q := by
    intro r
    induction r with
    | zero =>
      intro n hn
      (repeat (first | refine pm_W.ts rfl rfl ?_ | refine pm_W.tl rfl rfl ?_))
      refine pm_W.icmp rfl (fun c => ?_) (fun c => ?_)
      · (repeat (first | refine pm_W.ts rfl rfl ?_ | refine pm_W.tl rfl rfl ?_))
        rw [show n = 10 by omega]
        exact pm_W.iret rfl rfl k
      · have c : ¬ nI 11 ≤ nI (n + 1) := c
        rw [nI_leI (by omega) (by omega)] at c
        omega
    | succ r ih =>
      intro n hn
      have i1 := ih (n + 1) (by omega)
      (repeat (first | refine pm_W.ts rfl rfl ?_ | refine pm_W.tl rfl rfl ?_))
      refine pm_W.icmp rfl (fun c => ?_) (fun c => ?_)
      · have c : nI 11 ≤ nI (n + 1) := c
        rw [nI_leI (by omega) (by omega)] at c
        omega
      · (repeat (first | refine pm_W.ts rfl rfl ?_ | refine pm_W.tl rfl rfl ?_ | refine pm_W.get rfl rfl h1 rfl ?_))
        refine pm_W.iald rfl h2 (pm_ix_ok (j := n + 1) (by rw [List.length_map]; omega) (by rw [List.length_map]; omega)) ?_
        rw [fr_mapD]
        have hk := bK (n + 1)
        refine pm_W.ifz rfl (fun c2 => ?_) (fun c2 => ?_)
        · have c2 : nI (tr_K S (n + 1)) = nI 0 := c2
          rw [nI_eq (by omega) (by omega)] at c2
          rw [show tr_cnt (tr_u S) (n + 1) = tr_cnt (tr_u S) n from by show _ + _ = _; rw [show tr_u S (n + 1) = false from decide_eq_false (fun z => z c2)]; rfl, ← fr_inc (n + 1)] at i1
          (repeat (first | refine pm_W.ts rfl rfl ?_ | refine pm_W.tl rfl rfl ?_))
          refine pm_W.goto rfl ?_
          exact i1
        · have c2 : ¬ nI (tr_K S (n + 1)) = nI 0 := c2
          rw [nI_eq (by omega) (by omega)] at c2
          rw [show tr_cnt (tr_u S) (n + 1) = tr_cnt (tr_u S) n + 1 from by show _ + _ = _; rw [show tr_u S (n + 1) = true from decide_eq_true c2]; rfl, ← fr_inc (n + 1), ← fr_inc (tr_cnt (tr_u S) n)] at i1
          (repeat (first | refine pm_W.ts rfl rfl ?_ | refine pm_W.tl rfl rfl ?_))
          refine pm_W.goto rfl ?_
          exact i1
  unfold pm_X
  (iterate 4 (first | refine pm_W.ts rfl rfl ?_ | refine pm_W.tl rfl rfl ?_))
  exact loop 10 0 (by omega)
theorem ct_T_fileBytes (hb : tr_R h a S) (k : Q (some (.int (nI (tr_sm (tr_f S) (fun s => (tr_B S s).length) 10)))) h) : pm_X xs 1 mT_fileBytes [.ref a] h Q := by
  obtain ⟨h1, h2, h3, h4, h5, h6, l1, l2, l3, bK, bN, bP⟩ := id hb
  have loop : ∀ (r n : Nat), n + r = 10 → pm_W xs 1 mT_fileBytes 4 [.ref a, .int (nI (tr_sm (tr_f S) (fun s => (tr_B S s).length) n)), .int (nI (n + 1))] [] h Q := by
    intro r
    induction r with
    | zero =>
      intro n hn
      (repeat (first | refine pm_W.ts rfl rfl ?_ | refine pm_W.tl rfl rfl ?_))
      refine pm_W.icmp rfl (fun c => ?_) (fun c => ?_)
      · (repeat (first | refine pm_W.ts rfl rfl ?_ | refine pm_W.tl rfl rfl ?_))
        rw [show n = 10 by omega]
        exact pm_W.iret rfl rfl k
      · have c : ¬ nI 11 ≤ nI (n + 1) := c
        rw [nI_leI (by omega) (by omega)] at c
        omega
    | succ r ih =>
      intro n hn
      have i1 := ih (n + 1) (by omega)
      (repeat (first | refine pm_W.ts rfl rfl ?_ | refine pm_W.tl rfl rfl ?_))
      refine pm_W.icmp rfl (fun c => ?_) (fun c => ?_)
      · have c : nI 11 ≤ nI (n + 1) := c
        rw [nI_leI (by omega) (by omega)] at c
        omega
      · (repeat (first | refine pm_W.ts rfl rfl ?_ | refine pm_W.tl rfl rfl ?_ | refine pm_W.get rfl rfl h1 rfl ?_))
        refine pm_W.iald rfl h2 (pm_ix_ok (j := n + 1) (by rw [List.length_map]; omega) (by rw [List.length_map]; omega)) ?_
        rw [fr_mapD]
        have hk := bK (n + 1)
        (repeat (first | refine pm_W.ts rfl rfl ?_ | refine pm_W.tl rfl rfl ?_))
        refine pm_W.icmp rfl (fun c2 => ?_) (fun c2 => ?_)
        · have c2 : ¬ nI (tr_K S (n + 1)) = nI 1 := c2
          rw [nI_eq (by omega) (by omega)] at c2
          rw [show tr_sm (tr_f S) (fun s => (tr_B S s).length) (n + 1) = tr_sm (tr_f S) (fun s => (tr_B S s).length) n from by show _ + _ = _; rw [show tr_f S (n + 1) = false from decide_eq_false c2]; rfl, ← fr_inc (n + 1)] at i1
          (repeat (first | refine pm_W.ts rfl rfl ?_ | refine pm_W.tl rfl rfl ?_))
          refine pm_W.goto rfl ?_
          exact i1
        · have c2 : ¬ ¬ nI (tr_K S (n + 1)) = nI 1 := c2
          have c2 := Classical.not_not.mp c2
          rw [nI_eq (by omega) (by omega)] at c2
          rw [show tr_sm (tr_f S) (fun s => (tr_B S s).length) (n + 1) = tr_sm (tr_f S) (fun s => (tr_B S s).length) n + (tr_B S (n + 1)).length from by show _ + _ = _; rw [show tr_f S (n + 1) = true from decide_eq_true c2]; rfl, ← fr_inc (n + 1), ← nI_add] at i1
          (repeat (first | refine pm_W.ts rfl rfl ?_ | refine pm_W.tl rfl rfl ?_ | refine pm_W.get rfl rfl h1 rfl ?_))
          refine pm_W.aald rfl h5 (pm_ix_ok (j := n + 1) (by rw [tr_row_len]; omega) (by rw [tr_row_len]; omega)) (by decide) ?_
          rw [tr_rowD (by omega)]
          have hB := h6 (n + 1) (by omega)
          obtain ⟨ys, r1, -⟩ := id hB
          refine pm_W.callV rfl rfl rfl rfl (fr_ble rfl) r1 (fr_ble rfl) (ct_B_count hB ?_)
          (repeat (first | refine pm_W.ts rfl rfl ?_ | refine pm_W.tl rfl rfl ?_))
          refine pm_W.goto rfl ?_
          exact i1
  unfold pm_X
  (iterate 4 (first | refine pm_W.ts rfl rfl ?_ | refine pm_W.tl rfl rfl ?_))
  exact loop 10 0 (by omega)
theorem ct_T_parentOf {s : Nat} (hb : tr_R h a S) (hs : s < 11) (k : Q (some (.int (tr_pv (tr_P S s)))) h) : pm_X xs 1 mT_parentOf [.ref a, .int (nI s)] h Q := by
  obtain ⟨h1, h2, h3, h4, h5, h6, l1, l2, l3, bK, bN, bP⟩ := id hb
  unfold pm_X
  (repeat (first | refine pm_W.ts rfl rfl ?_ | refine pm_W.tl rfl rfl ?_))
  refine pm_W.callS rfl rfl rfl rfl (fr_ble rfl) (fr_ble rfl) (ct_T_isSlot hs ?_)
  refine pm_W.ifz rfl (fun c => absurd (show (1 : Int32) = 0 from c) (by decide)) (fun c => ?_)
  (repeat (first | refine pm_W.ts rfl rfl ?_ | refine pm_W.tl rfl rfl ?_ | refine pm_W.get rfl rfl h1 rfl ?_))
  refine pm_W.iald rfl h4 (pm_ix_ok (j := s) (by rw [List.length_map]; omega) (by rw [List.length_map]; omega)) ?_
  rw [tr_mapP (by omega)]
  refine pm_W.goto rfl ?_
  exact pm_W.iret rfl rfl k
theorem ct_T_isDirectory {s : Nat} (hb : tr_R h a S) (hs : s < 11) (k : Q (some (.int (fr_b (decide (tr_K S s = 2))))) h) : pm_X xs 1 mT_isDirectory [.ref a, .int (nI s)] h Q := by
  obtain ⟨h1, h2, h3, h4, h5, h6, l1, l2, l3, bK, bN, bP⟩ := id hb
  unfold pm_X
  (repeat (first | refine pm_W.ts rfl rfl ?_ | refine pm_W.tl rfl rfl ?_))
  refine pm_W.callS rfl rfl rfl rfl (fr_ble rfl) (fr_ble rfl) (ct_T_isSlot hs ?_)
  refine pm_W.ifz rfl (fun c => absurd (show (1 : Int32) = 0 from c) (by decide)) (fun c => ?_)
  (repeat (first | refine pm_W.ts rfl rfl ?_ | refine pm_W.tl rfl rfl ?_ | refine pm_W.get rfl rfl h1 rfl ?_))
  refine pm_W.iald rfl h2 (pm_ix_ok (j := s) (by rw [List.length_map]; omega) (by rw [List.length_map]; omega)) ?_
  rw [fr_mapD]
  have hk := bK s
  (repeat (first | refine pm_W.ts rfl rfl ?_ | refine pm_W.tl rfl rfl ?_))
  refine pm_W.icmp rfl (fun c2 => ?_) (fun c2 => ?_)
  · have c2 : ¬ nI (tr_K S s) = nI 2 := c2
    rw [nI_eq (by omega) (by omega)] at c2
    (repeat (first | refine pm_W.ts rfl rfl ?_ | refine pm_W.tl rfl rfl ?_))
    rw [fr_bf (decide_eq_false c2)] at k
    exact pm_W.iret rfl rfl k
  · have c2 : ¬ ¬ nI (tr_K S s) = nI 2 := c2
    have c2 := Classical.not_not.mp c2
    rw [nI_eq (by omega) (by omega)] at c2
    (repeat (first | refine pm_W.ts rfl rfl ?_ | refine pm_W.tl rfl rfl ?_))
    refine pm_W.goto rfl ?_
    rw [fr_bt (decide_eq_true c2)] at k
    exact pm_W.iret rfl rfl k
theorem ct_T_isDirectoryN (hb : tr_R h a S) (k : Q (some (.int 0)) h) : pm_X xs 1 mT_isDirectory [.ref a, .int (-1)] h Q := by
  unfold pm_X
  (repeat (first | refine pm_W.ts rfl rfl ?_ | refine pm_W.tl rfl rfl ?_))
  refine pm_W.callS rfl rfl rfl rfl (fr_ble rfl) (fr_ble rfl) (ct_T_isSlotN ?_)
  refine pm_W.ifz rfl (fun c => ?_) (fun c => absurd rfl c)
  (repeat (first | refine pm_W.ts rfl rfl ?_ | refine pm_W.tl rfl rfl ?_))
  exact pm_W.iret rfl rfl k
theorem ct_T_contentOf {s : Nat} (hb : tr_R h a S) (hs : s < 11) (k : Q (some (.ref (a + 5 + 2 * s))) h) : pm_X xs 1 mT_contentOf [.ref a, .int (nI s)] h Q := by
  obtain ⟨h1, h2, h3, h4, h5, h6, l1, l2, l3, bK, bN, bP⟩ := id hb
  unfold pm_X
  (repeat (first | refine pm_W.ts rfl rfl ?_ | refine pm_W.tl rfl rfl ?_))
  refine pm_W.callS rfl rfl rfl rfl (fr_ble rfl) (fr_ble rfl) (ct_T_isSlot hs ?_)
  refine pm_W.ifz rfl (fun c => absurd (show (1 : Int32) = 0 from c) (by decide)) (fun c => ?_)
  (repeat (first | refine pm_W.ts rfl rfl ?_ | refine pm_W.tl rfl rfl ?_ | refine pm_W.get rfl rfl h1 rfl ?_))
  refine pm_W.aald rfl h5 (pm_ix_ok (j := s) (by rw [tr_row_len]; omega) (by rw [tr_row_len]; omega)) (by decide) ?_
  rw [tr_rowD (by omega)]
  refine pm_W.goto rfl ?_
  exact pm_W.aretR rfl rfl k
end TREE
