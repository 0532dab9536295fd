def tr_at (S : tr_S) (p : Nat) : Nat → Option Nat → Prop
  | 0, o => o = some 0
  | k + 1, o => ∃ o', tr_at S p k o' ∧ match o' with
    | none => o = none
    | some d => (∃ s, o = some s ∧ 1 ≤ s ∧ s ≤ 10 ∧ tr_c S d s = true ∧ tr_N S s = pa_n p k) ∨ (o = none ∧ ∀ s, 1 ≤ s → s ≤ 10 → ¬ (tr_c S d s = true ∧ tr_N S s = pa_n p k))
theorem tr_at_le {S : tr_S} {p : Nat} : ∀ (k : Nat) (o : Option Nat), tr_at S p k o → ∀ q, o = some q → q ≤ 10 := by
  intro k
  cases k with
  | zero => intro o h q hq; rw [h] at hq; cases hq; omega
  | succ k =>
    intro o ⟨o', h1, h2⟩ q hq
    cases o' with
    | none => rw [h2] at hq; cases hq
    | some d =>
      rcases h2 with ⟨s, e, -, hs, -⟩ | ⟨e, -⟩
      · rw [e] at hq; cases hq; exact hs
      · rw [e] at hq; cases hq
theorem tr_at_none {S : tr_S} {p : Nat} : ∀ (r k : Nat), tr_at S p k none → tr_at S p (k + r) none := by
  intro r
  induction r with
  | zero => intro k h; exact h
  | succ r ih => intro k h; exact ⟨none, ih k h, rfl⟩
section TREE3
variable {xs : List Int32} {h : pm_H} {a : Nat} {S : tr_S} {Q : Option Value → pm_H → Prop}
theorem ct_T_find {p : Nat} (hb : tr_R h a S) (hp : p < 2 ^ 32) (k0 : pa_ok p = false → Q (some (.int (-1))) h) (k1 : pa_ok p = true → ∀ o, tr_at S p (pa_d p) o → Q (some (.int (tr_pv o))) h) : pm_X xs 3 mT_find [.ref a, .int (nI p)] h Q := by
  obtain ⟨h1, h2, h3, h4, h5, h6, l1, l2, l3, bK, bN, bP⟩ := id hb
  have hd := (pa_d_spec p).1
  unfold pm_X
  (repeat (first | refine pm_W.ts rfl rfl ?_ | refine pm_W.tl rfl rfl ?_))
  refine pm_W.callS rfl rfl rfl rfl (fr_ble rfl) (fr_ble rfl) (ct_T_isPath hp ?_)
  refine pm_W.ifz rfl (fun c => ?_) (fun c => ?_)
  · have c := fr_b1 c
    have loop : ∀ (r i : Nat) (o : Option Nat), i + r = pa_d p → tr_at S p i o → pm_W xs 3 mT_find 19 [.ref a, .int (nI p), .int (tr_pv o), .int (nI (pa_d p)), .int (nI i)] [] h Q := by
      intro r
      induction r with
      | zero =>
        intro i o hi ho
        (repeat (first | refine pm_W.ts rfl rfl ?_ | refine pm_W.tl rfl rfl ?_))
        refine pm_W.icmp rfl (fun c2 => ?_) (fun c2 => ?_)
        · (repeat (first | refine pm_W.ts rfl rfl ?_ | refine pm_W.tl rfl rfl ?_))
          rw [show i = pa_d p by omega] at ho
          exact pm_W.iret rfl rfl (k1 c o ho)
        · have c2 : ¬ nI (pa_d p) ≤ nI i := c2
          rw [nI_leI (by omega) (by omega)] at c2
          omega
      | succ r ih =>
        intro i o hi ho
        have hle := tr_at_le i o ho
        (repeat (first | refine pm_W.ts rfl rfl ?_ | refine pm_W.tl rfl rfl ?_))
        refine pm_W.icmp rfl (fun c2 => ?_) (fun c2 => ?_)
        · have c2 : nI (pa_d p) ≤ nI i := c2
          rw [nI_leI (by omega) (by omega)] at c2
          omega
        · (repeat (first | refine pm_W.ts rfl rfl ?_ | refine pm_W.tl rfl rfl ?_))
          refine pm_W.icmp rfl (fun c3 => ?_) (fun c3 => ?_)
          · have c3 : tr_pv o = -1 := c3
            rw [tr_pv_none hle] at c3
            subst c3
            (repeat (first | refine pm_W.ts rfl rfl ?_ | refine pm_W.tl rfl rfl ?_))
            have := tr_at_none (r + 1) i ho
            rw [hi] at this
            exact pm_W.iret rfl rfl (k1 c none this)
          · have c3 : ¬ tr_pv o = -1 := c3
            rw [tr_pv_none hle] at c3
            cases o with
            | none => exact absurd rfl c3
            | some d =>
              have hd10 := hle d rfl
              have hn : pa_n p i ≤ 31 := by unfold pa_n; omega
              (repeat (first | refine pm_W.ts rfl rfl ?_ | refine pm_W.tl rfl rfl ?_))
              refine pm_W.callS (d' := 0) rfl rfl rfl rfl (fr_ble rfl) (fr_ble rfl) (ct_T_nameIn hp (by omega) ?_)
              refine pm_W.callV rfl rfl rfl rfl (fr_ble rfl) h1 (fr_ble rfl) (ct_T_childNamed hb hd10 hn (fun s hs1 hs2 hc hN => ?_) (fun hno => ?_))
              · (iterate 2 (first | refine pm_W.ts rfl rfl ?_ | refine pm_W.tl rfl rfl ?_))
                refine pm_W.goto rfl ?_
                have := ih (i + 1) (some s) (by omega) ⟨some d, ho, Or.inl ⟨s, rfl, hs1, hs2, hc, hN⟩⟩
                rw [← fr_inc i] at this
                exact this
              · (iterate 2 (first | refine pm_W.ts rfl rfl ?_ | refine pm_W.tl rfl rfl ?_))
                refine pm_W.goto rfl ?_
                have := ih (i + 1) none (by omega) ⟨some d, ho, Or.inr ⟨rfl, hno⟩⟩
                rw [← fr_inc i] at this
                exact this
    (iterate 3 (first | refine pm_W.ts rfl rfl ?_ | refine pm_W.tl rfl rfl ?_))
    refine pm_W.callS rfl rfl rfl rfl (fr_ble rfl) (fr_ble rfl) (ct_T_namesIn hp ?_)
    (iterate 3 (first | refine pm_W.ts rfl rfl ?_ | refine pm_W.tl rfl rfl ?_))
    exact loop (pa_d p) 0 (some 0) (by omega) rfl
  · have c : ¬ ¬ fr_b (pa_ok p) = 0 := c
    (repeat (first | refine pm_W.ts rfl rfl ?_ | refine pm_W.tl rfl rfl ?_))
    exact pm_W.iret rfl rfl (k0 (fr_b0 (Classical.not_not.mp c)))
theorem ct_T_fileAt {p : Nat} (hb : tr_R h a S) (hp : p < 2 ^ 32) (k1 : pa_ok p = true → ∀ s, tr_at S p (pa_d p) (some s) → s ≤ 10 → tr_K S s = 1 → Q (some (.ref (a + 5 + 2 * s))) h) (k0 : (pa_ok p = true → ∃ o, tr_at S p (pa_d p) o ∧ ∀ s, o = some s → tr_K S s ≠ 1) → Q (some .null) h) : pm_X xs 4 mT_fileAt [.ref a, .int (nI p)] h Q := by
  obtain ⟨h1, h2, h3, h4, h5, h6, l1, l2, l3, bK, bN, bP⟩ := id hb
  have nul : Q (some .null) h → pm_W xs 4 mT_fileAt 5 [.ref a, .int (nI p), pm_none] [.int (-1)] h Q := by
    intro q
    (repeat (first | refine pm_W.ts rfl rfl ?_ | refine pm_W.tl rfl rfl ?_))
    refine pm_W.callS (d' := 0) rfl rfl rfl rfl (fr_ble rfl) (fr_ble rfl) (ct_T_isSlotN ?_)
    refine pm_W.ifz rfl (fun c => ?_) (fun c => absurd rfl c)
    (repeat (first | refine pm_W.ts rfl rfl ?_ | refine pm_W.tl rfl rfl ?_))
    exact pm_W.aretN rfl rfl q
  unfold pm_X
  (iterate 2 (first | refine pm_W.ts rfl rfl ?_ | refine pm_W.tl rfl rfl ?_))
  refine pm_W.callV rfl rfl rfl rfl (fr_ble rfl) h1 (fr_ble rfl) (ct_T_find hb hp (fun hn => ?_) (fun hy o ho => ?_))
  · exact nul (k0 (fun z => by rw [hn] at z; cases z))
  · cases o with
    | none => exact nul (k0 (fun _ => ⟨none, ho, fun s hs => by cases hs⟩))
    | some s =>
      have hs := tr_at_le _ _ ho s rfl
      (repeat (first | refine pm_W.ts rfl rfl ?_ | refine pm_W.tl rfl rfl ?_))
      refine pm_W.callS (d' := 0) rfl rfl rfl rfl (fr_ble rfl) (fr_ble rfl) (ct_T_isSlot (s := s) (by omega) ?_)
      refine pm_W.ifz rfl (fun c => absurd (show (1 : Int32) = 0 from c) (by decide)) (fun c => ?_)
      (repeat (first | refine pm_W.ts rfl rfl ?_ | refine pm_W.tl rfl rfl ?_ | refine pm_W.get rfl rfl h1 rfl ?_))
      refine pm_W.iald rfl h2 (pm_ix_ok (j := s) (by rw [List.length_map]; omega) (by rw [List.length_map]; omega)) ?_
      rw [fr_mapD]
      have hk := bK s
      (repeat (first | refine pm_W.ts rfl rfl ?_ | refine pm_W.tl rfl rfl ?_))
      refine pm_W.icmp rfl (fun c2 => ?_) (fun c2 => ?_)
      · have c2 : ¬ nI (tr_K S s) = nI 1 := c2
        rw [nI_eq (by omega) (by omega)] at c2
        (repeat (first | refine pm_W.ts rfl rfl ?_ | refine pm_W.tl rfl rfl ?_))
        exact pm_W.aretN rfl rfl (k0 (fun _ => ⟨some s, ho, fun t ht => by cases ht; exact c2⟩))
      · have c2 : ¬ ¬ nI (tr_K S s) = nI 1 := c2
        have c2 := Classical.not_not.mp c2
        rw [nI_eq (by omega) (by omega)] at c2
        (repeat (first | refine pm_W.ts rfl rfl ?_ | refine pm_W.tl rfl rfl ?_ | refine pm_W.get rfl rfl h1 rfl ?_))
        refine pm_W.aald rfl h5 (pm_ix_ok (j := s) (by rw [tr_row_len]; omega) (by rw [tr_row_len]; omega)) (by decide) ?_
        rw [tr_rowD (by omega)]
        refine pm_W.goto rfl ?_
        exact pm_W.aretR rfl rfl (k1 hy s ho hs c2)
def tr_best (f : Nat → Bool) (g : Nat → Nat) (w : Nat) : Nat → Option Nat
  | 0 => none
  | n + 1 => if f (n + 1) = true ∧ w < g (n + 1) ∧ (∀ b, tr_best f g w n = some b → g (n + 1) < g b) then some (n + 1) else tr_best f g w n
theorem tr_best_le {f : Nat → Bool} {g : Nat → Nat} {w : Nat} : ∀ (n b : Nat), tr_best f g w n = some b → 1 ≤ b ∧ b ≤ n := by
  intro n
  induction n with
  | zero => intro b hb; cases hb
  | succ n ih =>
    intro b hb
    unfold tr_best at hb
    split at hb
    · cases hb; omega
    · have := ih b hb; omega
theorem ct_T_childBehind {d w : Nat} (hb : tr_R h a S) (hd : d ≤ 10) (hw : w ≤ 31) (k : Q (some (.int (tr_pv (tr_best (tr_c S d) (tr_N S) w 10)))) h) : pm_X xs 1 mT_childBehind [.ref a, .int (nI d), .int (nI w)] h Q := by
  obtain ⟨h1, h2, h3, h4, h5, h6, l1, l2, l3, bK, bN, bP⟩ := id hb
  have loop : ∀ (r n : Nat), n + r = 10 → pm_W xs 1 mT_childBehind 5 [.ref a, .int (nI d), .int (nI w), .int (tr_pv (tr_best (tr_c S d) (tr_N S) w n)), .int (nI (n + 1))] [] h Q := by
    intro r
    induction r with
    | zero =>
      intro n hn
      (repeat (first | refine pm_W.ts rfl rfl ?_ | refine pm_W.tl rfl rfl ?_))
      refine pm_W.icmp rfl (fun c => ?_) (fun c => ?_)
      · (repeat (first | refine pm_W.ts rfl rfl ?_ | refine pm_W.tl rfl rfl ?_))
        rw [show n = 10 by omega]
        exact pm_W.iret rfl rfl k
      · have c : ¬ nI 11 ≤ nI (n + 1) := c
        rw [nI_leI (by omega) (by omega)] at c
        omega
    | succ r ih =>
      intro n hn
      have i1 := ih (n + 1) (by omega)
      have hN := bN (n + 1)
      have no : tr_best (tr_c S d) (tr_N S) w (n + 1) = tr_best (tr_c S d) (tr_N S) w n → pm_W xs 1 mT_childBehind 57 [.ref a, .int (nI d), .int (nI w), .int (tr_pv (tr_best (tr_c S d) (tr_N S) w n)), .int (nI (n + 1))] [] h Q := by
        intro e
        rw [e, ← fr_inc (n + 1)] at i1
        (repeat (first | refine pm_W.ts rfl rfl ?_ | refine pm_W.tl rfl rfl ?_))
        refine pm_W.goto rfl ?_
        exact i1
      have yes : tr_best (tr_c S d) (tr_N S) w (n + 1) = some (n + 1) → pm_W xs 1 mT_childBehind 54 [.ref a, .int (nI d), .int (nI w), .int (tr_pv (tr_best (tr_c S d) (tr_N S) w n)), .int (nI (n + 1))] [] h Q := by
        intro e
        rw [e, ← fr_inc (n + 1)] at i1
        (repeat (first | refine pm_W.ts rfl rfl ?_ | refine pm_W.tl rfl rfl ?_))
        refine pm_W.goto rfl ?_
        exact i1
      (repeat (first | refine pm_W.ts rfl rfl ?_ | refine pm_W.tl rfl rfl ?_))
      refine pm_W.icmp rfl (fun c => ?_) (fun c => ?_)
      · have c : nI 11 ≤ nI (n + 1) := c
        rw [nI_leI (by omega) (by omega)] at c
        omega
      · (repeat (first | refine pm_W.ts rfl rfl ?_ | refine pm_W.tl rfl rfl ?_))
        refine pm_W.callV rfl rfl rfl rfl (fr_ble rfl) h1 (fr_ble rfl) (ct_T_isChild hb (by omega) hd ?_)
        refine pm_W.ifz rfl (fun c2 => ?_) (fun c2 => ?_)
        · have c2 := fr_b0 c2
          exact no (by rw [tr_best, if_neg (fun z => by rw [c2] at z; cases z.1)])
        · have c2 := fr_b1 c2
          (repeat (first | refine pm_W.ts rfl rfl ?_ | refine pm_W.tl rfl rfl ?_ | refine pm_W.get rfl rfl h1 rfl ?_))
          refine pm_W.iald rfl h3 (pm_ix_ok (j := n + 1) (by rw [List.length_map]; omega) (by rw [List.length_map]; omega)) ?_
          rw [fr_mapD]
          (repeat (first | refine pm_W.ts rfl rfl ?_ | refine pm_W.tl rfl rfl ?_))
          refine pm_W.icmp rfl (fun c3 => ?_) (fun c3 => ?_)
          · have c3 : nI (tr_N S (n + 1)) ≤ nI w := c3
            rw [nI_leI (by omega) (by omega)] at c3
            exact no (by rw [tr_best, if_neg (fun z => by omega)])
          · have c3 : ¬ nI (tr_N S (n + 1)) ≤ nI w := c3
            rw [nI_leI (by omega) (by omega)] at c3
            (repeat (first | refine pm_W.ts rfl rfl ?_ | refine pm_W.tl rfl rfl ?_))
            cases hbest : tr_best (tr_c S d) (tr_N S) w n with
            | none =>
              rw [hbest] at yes no
              refine pm_W.icmp rfl (fun c4 => ?_) (fun c4 => absurd rfl c4)
              exact yes (by rw [tr_best, if_pos ⟨c2, by omega, fun b hb => by rw [hbest] at hb; cases hb⟩])
            | some b =>
              rw [hbest] at yes no
              have hb2 := tr_best_le n b hbest
              have hNb := bN b
              refine pm_W.icmp rfl (fun c4 => ?_) (fun c4 => ?_)
              · have c4 : nI b = -1 := c4
                have : (nI b).toInt = -1 := by rw [c4]; rfl
                rw [nI_toInt (by omega)] at this
                omega
              · (repeat (first | refine pm_W.ts rfl rfl ?_ | refine pm_W.tl rfl rfl ?_ | refine pm_W.get rfl rfl h1 rfl ?_))
                refine pm_W.iald rfl h3 (pm_ix_ok (j := n + 1) (by rw [List.length_map]; omega) (by rw [List.length_map]; omega)) ?_
                rw [fr_mapD]
                (repeat (first | refine pm_W.ts rfl rfl ?_ | refine pm_W.tl rfl rfl ?_ | refine pm_W.get rfl rfl h1 rfl ?_))
                refine pm_W.iald rfl h3 (pm_ix_ok (j := b) (by rw [List.length_map]; omega) (by rw [List.length_map]; omega)) ?_
                rw [fr_mapD]
                refine pm_W.icmp rfl (fun c5 => ?_) (fun c5 => ?_)
                · have c5 : nI (tr_N S b) ≤ nI (tr_N S (n + 1)) := c5
                  rw [nI_leI (by omega) (by omega)] at c5
                  exact no (by rw [tr_best, if_neg (fun z => by have := z.2.2 b hbest; omega), hbest])
                · have c5 : ¬ nI (tr_N S b) ≤ nI (tr_N S (n + 1)) := c5
                  rw [nI_leI (by omega) (by omega)] at c5
                  exact yes (by rw [tr_best, if_pos ⟨c2, by omega, fun b' hb' => by rw [hbest] at hb'; cases hb'; omega⟩])
  unfold pm_X
  (iterate 4 (first | refine pm_W.ts rfl rfl ?_ | refine pm_W.tl rfl rfl ?_))
  exact loop 10 0 (by omega)
end TREE3
