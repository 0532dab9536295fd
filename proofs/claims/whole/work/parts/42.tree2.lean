theorem fr_setD {α : Type} {l : List α} {j t : Nat} {x d : α} (hj : j < l.length) : (l.set j x).getD t d = if t = j then x else l.getD t d := by
  by_cases h : t = j
  · subst h; simp [hj]
  · rw [if_neg h, List.getD_eq_getElem?_getD, List.getElem?_set_ne (fun z => h z.symm), List.getD_eq_getElem?_getD]
def tr_setK (S : tr_S) (s v : Nat) : tr_S := (S.1.set s v, S.2.1, S.2.2.1, S.2.2.2)
def tr_add (S : tr_S) (s d w v : Nat) : tr_S := (S.1.set s v, S.2.1.set s w, S.2.2.1.set s (some d), fun t => if t = s then [] else S.2.2.2 t)
def tr_setB (S : tr_S) (s : Nat) (bs : List Int32) : tr_S := (S.1, S.2.1, S.2.2.1, fun t => if t = s then bs else S.2.2.2 t)
theorem tr_setK_K {S : tr_S} {s v t : Nat} (h : tr_ok S) (hs : s < 11) : tr_K (tr_setK S s v) t = if t = s then v else tr_K S t := fr_setD (by rw [h.1]; exact hs)
theorem tr_setK_ok {S : tr_S} {s v : Nat} (h : tr_ok S) (hs : s < 11) (hv : v ≤ 2) : tr_ok (tr_setK S s v) := by
  refine ⟨by show (S.1.set s v).length = 11; rw [List.length_set]; exact h.1, h.2.1, h.2.2.1, fun t => ?_, h.2.2.2.2.1, h.2.2.2.2.2⟩
  rw [tr_setK_K h hs]
  split
  · exact hv
  · exact h.2.2.2.1 t
theorem tr_R.setK {h : pm_H} {a : Nat} {S : tr_S} {s v : Nat} (hb : tr_R h a S) (hs : s < 11) (hv : v ≤ 2) : tr_R (h.1.set (a + 1) (.inl (false, (S.1.map nI).set s (nI v))), h.2) a (tr_setK S s v) := by
  obtain ⟨h1, h2, h3, h4, h5, h6, h7⟩ := hb
  refine ⟨fr_ne h1 (by omega), ?_, fr_ne h3 (by omega), fr_ne h4 (by omega), fr_ne h5 (by omega), fun t ht => (h6 t ht).ag (fr_agset (lo := a + 1) (hi := a + 2) (by omega) (by omega)) (by omega), tr_setK_ok h7 hs hv⟩
  rw [← List.map_set]
  exact fr_set h2
theorem tr_R.setB {h h' : pm_H} {a : Nat} {S : tr_S} {s : Nat} {bs : List Int32} (hb : tr_R h a S) (hs : s < 11) (hB : bt_R h' (a + 5 + 2 * s) 16 bs) (hag : fr_ag (a + 5 + 2 * s) (a + 5 + 2 * s + 2) h h') : tr_R h' a (tr_setB S s bs) := by
  obtain ⟨h1, h2, h3, h4, h5, h6, h7⟩ := hb
  refine ⟨hag.at (by omega) h1, hag.at (by omega) h2, hag.at (by omega) h3, hag.at (by omega) h4, hag.at (by omega) h5, fun t ht => ?_, h7⟩
  show bt_R h' _ 16 (if t = s then bs else S.2.2.2 t)
  by_cases e : t = s
  · subst e
    rw [if_pos rfl]
    exact hB
  · rw [if_neg e]
    exact (h6 t ht).ag hag (by omega)
section TREE2
variable {xs : List Int32} {h : pm_H} {a : Nat} {S : tr_S} {Q : Option Value → pm_H → Prop}
def tr_climb (S : tr_S) : Nat → Option Nat → Nat
  | 0, _ => 0
  | _ + 1, none => 0
  | f + 1, some q => tr_climb S f (tr_P S q) + 1
theorem ct_T_depthOf {s : Nat} (hb : tr_R h a S) (hs : s < 11) (k : Q (some (.int (nI (tr_climb S 6 (tr_P S s))))) h) : pm_X xs 2 mT_depthOf [.ref a, .int (nI s)] h Q := by
  obtain ⟨h1, h2, h3, h4, h5, h6, l1, l2, l3, bK, bN, bP⟩ := id hb
  have loop : ∀ (f d : Nat) (o : Option Nat), d + f = 6 → (∀ q, o = some q → q ≤ 10) → d + tr_climb S f o = tr_climb S 6 (tr_P S s) → pm_W xs 2 mT_depthOf 8 [.ref a, .int (nI s), .int (nI d), .int (tr_pv o)] [] h Q := by
    intro f
    induction f with
    | zero =>
      intro d o hd ho he
      have fin : pm_W xs 2 mT_depthOf 31 [.ref a, .int (nI s), .int (nI d), .int (tr_pv o)] [] h Q := by
        (repeat (first | refine pm_W.ts rfl rfl ?_ | refine pm_W.tl rfl rfl ?_))
        refine pm_W.iret rfl rfl ?_
        rw [← he] at k
        exact k
      (repeat (first | refine pm_W.ts rfl rfl ?_ | refine pm_W.tl rfl rfl ?_))
      refine pm_W.icmp rfl (fun c => fin) (fun c => ?_)
      (repeat (first | refine pm_W.ts rfl rfl ?_ | refine pm_W.tl rfl rfl ?_))
      refine pm_W.icmp rfl (fun c2 => fin) (fun c2 => ?_)
      have c2 : ¬ nI 6 ≤ nI d := c2
      rw [nI_leI (by omega) (by omega)] at c2
      omega
    | succ f ih =>
      intro d o hd ho he
      (repeat (first | refine pm_W.ts rfl rfl ?_ | refine pm_W.tl rfl rfl ?_))
      refine pm_W.icmp rfl (fun c => ?_) (fun c => ?_)
      · have c : tr_pv o = -1 := c
        rw [tr_pv_none ho] at c
        subst c
        (repeat (first | refine pm_W.ts rfl rfl ?_ | refine pm_W.tl rfl rfl ?_))
        refine pm_W.iret rfl rfl ?_
        rw [← he] at k
        exact k
      · have c : ¬ tr_pv o = -1 := c
        rw [tr_pv_none ho] at c
        (repeat (first | refine pm_W.ts rfl rfl ?_ | refine pm_W.tl rfl rfl ?_))
        refine pm_W.icmp rfl (fun c2 => ?_) (fun c2 => ?_)
        · have c2 : nI 6 ≤ nI d := c2
          rw [nI_leI (by omega) (by omega)] at c2
          omega
        · cases o with
          | none => exact absurd rfl c
          | some q =>
            have hq := ho q rfl
            (repeat (first | refine pm_W.ts rfl rfl ?_ | refine pm_W.tl rfl rfl ?_))
            refine pm_W.callV rfl rfl rfl rfl (fr_ble rfl) h1 (fr_ble rfl) (ct_T_parentOf hb (s := q) (by omega) ?_)
            (iterate 1 (first | refine pm_W.ts rfl rfl ?_ | refine pm_W.tl rfl rfl ?_))
            refine pm_W.goto rfl ?_
            have := ih (d + 1) (tr_P S q) (by omega) (bP q) (by
              have e : tr_climb S (f + 1) (some q) = tr_climb S f (tr_P S q) + 1 := rfl
              rw [e] at he
              omega)
            rw [← fr_inc d] at this
            exact this
  unfold pm_X
  (iterate 4 (first | refine pm_W.ts rfl rfl ?_ | refine pm_W.tl rfl rfl ?_))
  refine pm_W.callV rfl rfl rfl rfl (fr_ble rfl) h1 (fr_ble rfl) (ct_T_parentOf hb hs ?_)
  (iterate 1 (first | refine pm_W.ts rfl rfl ?_ | refine pm_W.tl rfl rfl ?_))
  exact loop 6 0 (tr_P S s) (by omega) (bP s) (by omega)
def tr_lies (S : tr_S) (top : Nat) : Nat → Option Nat → Bool
  | 0, _ => false
  | _ + 1, none => false
  | f + 1, some q => Nat.beq q top || tr_lies S top f (tr_P S q)
theorem ct_T_liesIn {s t : Nat} (hb : tr_R h a S) (hs : s < 11) (ht : t < 11) (k : Q (some (.int (fr_b (tr_lies S t 7 (some s))))) h) : pm_X xs 2 mT_liesIn [.ref a, .int (nI s), .int (nI t)] h Q := by
  obtain ⟨h1, h2, h3, h4, h5, h6, l1, l2, l3, bK, bN, bP⟩ := id hb
  have loop : ∀ (f u : Nat) (o : Option Nat), u + f = 7 → (∀ q, o = some q → q ≤ 10) → tr_lies S t f o = tr_lies S t 7 (some s) → pm_W xs 2 mT_liesIn 5 [.ref a, .int (nI s), .int (nI t), .int (tr_pv o), .int (nI u)] [] h Q := by
    intro f
    induction f with
    | zero =>
      intro u o hu ho he
      (repeat (first | refine pm_W.ts rfl rfl ?_ | refine pm_W.tl rfl rfl ?_))
      refine pm_W.icmp rfl (fun c => ?_) (fun c => ?_)
      · (repeat (first | refine pm_W.ts rfl rfl ?_ | refine pm_W.tl rfl rfl ?_))
        refine pm_W.iret rfl rfl ?_
        rw [← he, fr_bf (show tr_lies S t 0 o = false from rfl)] at k
        exact k
      · have c : ¬ nI 6 < nI u := c
        rw [nI_ltI (by omega) (by omega)] at c
        omega
    | succ f ih =>
      intro u o hu ho he
      (repeat (first | refine pm_W.ts rfl rfl ?_ | refine pm_W.tl rfl rfl ?_))
      refine pm_W.icmp rfl (fun c => ?_) (fun c => ?_)
      · have c : nI 6 < nI u := c
        rw [nI_ltI (by omega) (by omega)] at c
        omega
      · (repeat (first | refine pm_W.ts rfl rfl ?_ | refine pm_W.tl rfl rfl ?_))
        refine pm_W.icmp rfl (fun c => ?_) (fun c => ?_)
        · have c : tr_pv o = -1 := c
          rw [tr_pv_none ho] at c
          subst c
          (repeat (first | refine pm_W.ts rfl rfl ?_ | refine pm_W.tl rfl rfl ?_))
          refine pm_W.iret rfl rfl ?_
          rw [← he, fr_bf (show tr_lies S t (f + 1) none = false from rfl)] at k
          exact k
        · have c : ¬ tr_pv o = -1 := c
          rw [tr_pv_none ho] at c
          cases o with
          | none => exact absurd rfl c
          | some q =>
            have hq := ho q rfl
            have e : tr_lies S t (f + 1) (some q) = (Nat.beq q t || tr_lies S t f (tr_P S q)) := rfl
            (repeat (first | refine pm_W.ts rfl rfl ?_ | refine pm_W.tl rfl rfl ?_))
            refine pm_W.icmp rfl (fun c2 => ?_) (fun c2 => ?_)
            · have c2 : ¬ nI q = nI t := c2
              rw [nI_eq (by omega) (by omega)] at c2
              have e2 : Nat.beq q t = false := by
                cases hq2 : Nat.beq q t with
                | false => rfl
                | true => exact absurd (Nat.eq_of_beq_eq_true hq2) c2
              rw [e, e2, Bool.false_or] at he
              (repeat (first | refine pm_W.ts rfl rfl ?_ | refine pm_W.tl rfl rfl ?_))
              refine pm_W.callV rfl rfl rfl rfl (fr_ble rfl) h1 (fr_ble rfl) (ct_T_parentOf hb (s := q) (by omega) ?_)
              (iterate 2 (first | refine pm_W.ts rfl rfl ?_ | refine pm_W.tl rfl rfl ?_))
              refine pm_W.goto rfl ?_
              have := ih (u + 1) (tr_P S q) (by omega) (bP q) he
              rw [← fr_inc u] at this
              exact this
            · have c2 : ¬ ¬ nI q = nI t := c2
              have c2 := Classical.not_not.mp c2
              rw [nI_eq (by omega) (by omega)] at c2
              (repeat (first | refine pm_W.ts rfl rfl ?_ | refine pm_W.tl rfl rfl ?_))
              refine pm_W.iret rfl rfl ?_
              rw [← he, e, fr_bt (by rw [c2, Nat.beq_refl]; rfl)] at k
              exact k
  unfold pm_X
  (iterate 4 (first | refine pm_W.ts rfl rfl ?_ | refine pm_W.tl rfl rfl ?_))
  exact loop 7 0 (some s) (by omega) (fun q hq => by cases hq; omega) rfl
theorem tr_lies_setK {s v t : Nat} : ∀ (f : Nat) (o : Option Nat), tr_lies (tr_setK S s v) t f o = tr_lies S t f o := by
  intro f
  induction f with
  | zero => intro o; rfl
  | succ f ih =>
    intro o
    cases o with
    | none => rfl
    | some q =>
      show (_ || tr_lies (tr_setK S s v) t f (tr_P S q)) = _
      rw [ih]
      rfl
def tr_g (S : tr_S) (t s : Nat) : Bool := tr_u S s && tr_lies S t 7 (some s)
def tr_away (S : tr_S) (t : Nat) : Nat → tr_S
  | 0 => S
  | n + 1 => if tr_g S t (n + 1) = true then tr_setK (tr_away S t n) (n + 1) 0 else tr_away S t n
theorem tr_away_ok {t : Nat} (h : tr_ok S) : ∀ n, n ≤ 10 → tr_ok (tr_away S t n) ∧ (∀ s, n < s → tr_K (tr_away S t n) s = tr_K S s) ∧ (∀ f o, tr_lies (tr_away S t n) t f o = tr_lies S t f o) := by
  intro n
  induction n with
  | zero => intro _; exact ⟨h, fun _ _ => rfl, fun _ _ => rfl⟩
  | succ n ih =>
    intro hn
    obtain ⟨i1, i2, i3⟩ := ih (by omega)
    unfold tr_away
    split
    · refine ⟨tr_setK_ok i1 (by omega) (by omega), fun s hs => ?_, fun f o => ?_⟩
      · rw [tr_setK_K i1 (by omega), if_neg (by omega)]
        exact i2 s (by omega)
      · rw [tr_lies_setK]
        exact i3 f o
    · exact ⟨i1, fun s hs => i2 s (by omega), i3⟩
theorem ct_T_takeAway {t : Nat} (hb : tr_R h a S) (ht : t < 11) (k : ∀ h' : pm_H, tr_R h' a (tr_away S t 10) → fr_ag a (a + 27) h h' → Q (some (.int (nI (tr_cnt (tr_g S t) 10)))) h') : pm_X xs 3 mT_takeAway [.ref a, .int (nI t)] h Q := by
  have hok : tr_ok S := hb.2.2.2.2.2.2
  have loop : ∀ (r n : Nat) (g : pm_H), n + r = 10 → tr_R g a (tr_away S t n) → fr_ag a (a + 27) h g → pm_W xs 3 mT_takeAway 4 [.ref a, .int (nI t), .int (nI (tr_cnt (tr_g S t) n)), .int (nI (n + 1))] [] g Q := by
    intro r
    induction r with
    | zero =>
      intro n g hn hg hag
      (repeat (first | refine pm_W.ts rfl rfl ?_ | refine pm_W.tl rfl rfl ?_))
      refine pm_W.icmp rfl (fun c => ?_) (fun c => ?_)
      · (repeat (first | refine pm_W.ts rfl rfl ?_ | refine pm_W.tl rfl rfl ?_))
        have e : n = 10 := by omega
        subst e
        exact pm_W.iret rfl rfl (k g hg hag)
      · have c : ¬ nI 11 ≤ nI (n + 1) := c
        rw [nI_leI (by omega) (by omega)] at c
        omega
    | succ r ih =>
      intro n g hn hg hag
      obtain ⟨h1, h2, h3, h4, h5, h6, l1, l2, l3, bK, bN, bP⟩ := id hg
      obtain ⟨o1, o2, o3⟩ := tr_away_ok (t := t) hok n (by omega)
      have hK : tr_K (tr_away S t n) (n + 1) = tr_K S (n + 1) := o2 (n + 1) (by omega)
      have hk := bK (n + 1)
      have no : tr_g S t (n + 1) = false → pm_W xs 3 mT_takeAway 38 [.ref a, .int (nI t), .int (nI (tr_cnt (tr_g S t) n)), .int (nI (n + 1))] [] g Q := by
        intro c2
        have i1 := ih (n + 1) g (by omega) (by rw [tr_away, if_neg (by rw [c2]; decide)]; exact hg) hag
        rw [show tr_cnt (tr_g S t) (n + 1) = tr_cnt (tr_g S t) n from by show _ + _ = _; rw [c2]; rfl, ← fr_inc (n + 1)] at i1
        (repeat (first | refine pm_W.ts rfl rfl ?_ | refine pm_W.tl rfl rfl ?_))
        refine pm_W.goto rfl ?_
        exact i1
      (repeat (first | refine pm_W.ts rfl rfl ?_ | refine pm_W.tl rfl rfl ?_))
      refine pm_W.icmp rfl (fun c => ?_) (fun c => ?_)
      · have c : nI 11 ≤ nI (n + 1) := c
        rw [nI_leI (by omega) (by omega)] at c
        omega
      · (repeat (first | refine pm_W.ts rfl rfl ?_ | refine pm_W.tl rfl rfl ?_ | refine pm_W.get rfl rfl h1 rfl ?_))
        refine pm_W.iald rfl h2 (pm_ix_ok (j := n + 1) (by rw [List.length_map]; omega) (by rw [List.length_map]; omega)) ?_
        rw [fr_mapD]
        refine pm_W.ifz rfl (fun c2 => ?_) (fun c2 => ?_)
        · have c2 : nI (tr_K (tr_away S t n) (n + 1)) = nI 0 := c2
          rw [nI_eq (by omega) (by omega), hK] at c2
          exact no (by unfold tr_g; rw [show tr_u S (n + 1) = false from decide_eq_false (fun z => z c2)]; rfl)
        · have c2 : ¬ nI (tr_K (tr_away S t n) (n + 1)) = nI 0 := c2
          rw [nI_eq (by omega) (by omega), hK] at c2
          (repeat (first | refine pm_W.ts rfl rfl ?_ | refine pm_W.tl rfl rfl ?_))
          refine pm_W.callV rfl rfl rfl rfl (fr_ble rfl) h1 (fr_ble rfl) (ct_T_liesIn hg (by omega) ht ?_)
          rw [o3]
          refine pm_W.ifz rfl (fun c3 => ?_) (fun c3 => ?_)
          · have c3 := fr_b0 c3
            exact no (by unfold tr_g; rw [c3, Bool.and_false])
          · have c3 := fr_b1 c3
            have cg : tr_g S t (n + 1) = true := by unfold tr_g; rw [c3, show tr_u S (n + 1) = true from decide_eq_true c2]; rfl
            (repeat (first | refine pm_W.ts rfl rfl ?_ | refine pm_W.tl rfl rfl ?_ | refine pm_W.get rfl rfl h1 rfl ?_))
            refine pm_W.iast (x := nI 0) rfl h2 (pm_ix_ok (j := n + 1) (by rw [List.length_map]; omega) (by rw [List.length_map]; omega)) ?_
            (repeat (first | refine pm_W.ts rfl rfl ?_ | refine pm_W.tl rfl rfl ?_))
            refine pm_W.goto rfl ?_
            have hg2 := hg.setK (s := n + 1) (v := 0) (by omega) (by omega)
            have i1 := ih (n + 1) _ (by omega) (by rw [tr_away, if_pos cg]; exact hg2) (hag.tr (fr_agset (by omega) (by omega)))
            rw [show tr_cnt (tr_g S t) (n + 1) = tr_cnt (tr_g S t) n + 1 from by show _ + _ = _; rw [cg]; rfl, ← fr_inc (n + 1), ← fr_inc (tr_cnt (tr_g S t) n)] at i1
            exact i1
  unfold pm_X
  (iterate 4 (first | refine pm_W.ts rfl rfl ?_ | refine pm_W.tl rfl rfl ?_))
  exact loop 10 0 h (by omega) hb fr_ag.rf
def tr_clr (S : tr_S) : Nat → tr_S
  | 0 => S
  | n + 1 => tr_setK (tr_clr S n) (n + 1) 0
theorem ct_T_clear (hb : tr_R h a S) (k : ∀ h' : pm_H, tr_R h' a (tr_clr S 10) → fr_ag a (a + 27) h h' → Q none h') : pm_X xs 0 mT_clear [.ref a] h Q := by
  have loop : ∀ (r n : Nat) (g : pm_H), n + r = 10 → tr_R g a (tr_clr S n) → fr_ag a (a + 27) h g → pm_W xs 0 mT_clear 2 [.ref a, .int (nI (n + 1))] [] g Q := by
    intro r
    induction r with
    | zero =>
      intro n g hn hg hag
      (repeat (first | refine pm_W.ts rfl rfl ?_ | refine pm_W.tl rfl rfl ?_))
      refine pm_W.icmp rfl (fun c => ?_) (fun c => ?_)
      · have e : n = 10 := by omega
        subst e
        exact pm_W.ret rfl rfl (k g hg hag)
      · have c : ¬ nI 11 ≤ nI (n + 1) := c
        rw [nI_leI (by omega) (by omega)] at c
        omega
    | succ r ih =>
      intro n g hn hg hag
      obtain ⟨h1, h2, h3, h4, h5, h6, l1, l2, l3, bK, bN, bP⟩ := id hg
      (repeat (first | refine pm_W.ts rfl rfl ?_ | refine pm_W.tl rfl rfl ?_))
      refine pm_W.icmp rfl (fun c => ?_) (fun c => ?_)
      · have c : nI 11 ≤ nI (n + 1) := c
        rw [nI_leI (by omega) (by omega)] at c
        omega
      · (repeat (first | refine pm_W.ts rfl rfl ?_ | refine pm_W.tl rfl rfl ?_ | refine pm_W.get rfl rfl h1 rfl ?_))
        refine pm_W.iast (x := nI 0) rfl h2 (pm_ix_ok (j := n + 1) (by rw [List.length_map]; omega) (by rw [List.length_map]; omega)) ?_
        (repeat (first | refine pm_W.ts rfl rfl ?_ | refine pm_W.tl rfl rfl ?_))
        refine pm_W.goto rfl ?_
        have i1 := ih (n + 1) _ (by omega) (hg.setK (s := n + 1) (v := 0) (by omega) (by omega)) (hag.tr (fr_agset (by omega) (by omega)))
        rw [← fr_inc (n + 1)] at i1
        exact i1
  unfold pm_X
  (iterate 2 (first | refine pm_W.ts rfl rfl ?_ | refine pm_W.tl rfl rfl ?_))
  exact loop 10 0 h (by omega) hb fr_ag.rf
theorem tr_add_ok {s d w v : Nat} (h : tr_ok S) (hs : s < 11) (hd : d ≤ 10) (hw : w ≤ 31) (hv : v ≤ 2) : tr_ok (tr_add S s d w v) := by
  refine ⟨by show (S.1.set s v).length = 11; rw [List.length_set]; exact h.1, by show (S.2.1.set s w).length = 11; rw [List.length_set]; exact h.2.1, by show (S.2.2.1.set s (some d)).length = 11; rw [List.length_set]; exact h.2.2.1, fun t => ?_, fun t => ?_, fun t q hq => ?_⟩
  · show (S.1.set s v).getD t 0 ≤ 2
    rw [fr_setD (by rw [h.1]; exact hs)]
    split
    · exact hv
    · exact h.2.2.2.1 t
  · show (S.2.1.set s w).getD t 0 ≤ 31
    rw [fr_setD (by rw [h.2.1]; exact hs)]
    split
    · exact hw
    · exact h.2.2.2.2.1 t
  · have hq : (S.2.2.1.set s (some d)).getD t none = some q := hq
    rw [fr_setD (by rw [h.2.2.1]; exact hs)] at hq
    split at hq
    · cases hq; exact hd
    · exact h.2.2.2.2.2 t q hq
theorem ct_T_addEntry {d w v : Nat} (hb : tr_R h a S) (hd : d ≤ 10) (hw : w ≤ 31) (hv : v ≤ 2) (k1 : ∀ s, 1 ≤ s → s ≤ 10 → tr_K S s = 0 → (∀ t, 1 ≤ t → t < s → tr_K S t ≠ 0) → ∀ h' : pm_H, tr_R h' a (tr_add S s d w v) → fr_ag a (a + 27) h h' → Q (some (.int (nI s))) h') (k0 : (∀ t, 1 ≤ t → t ≤ 10 → tr_K S t ≠ 0) → Q (some (.int (-1))) h) : pm_X xs 1 mT_addEntry [.ref a, .int (nI d), .int (nI w), .int (nI v)] h Q := by
  obtain ⟨h1, h2, h3, h4, h5, h6, l1, l2, l3, bK, bN, bP⟩ := id hb
  have hok : tr_ok S := hb.2.2.2.2.2.2
  have loop : ∀ (r n : Nat), n + r = 10 → (∀ t, 1 ≤ t → t ≤ n → tr_K S t ≠ 0) → pm_W xs 1 mT_addEntry 3 [.ref a, .int (nI d), .int (nI w), .int (nI v), .int (nI (n + 1))] [] h Q := by
    intro r
    induction r with
    | zero =>
      intro n hn hj
      (repeat (first | refine pm_W.ts rfl rfl ?_ | refine pm_W.tl rfl rfl ?_))
      refine pm_W.icmp rfl (fun c => ?_) (fun c => ?_)
      · (repeat (first | refine pm_W.ts rfl rfl ?_ | refine pm_W.tl rfl rfl ?_))
        exact pm_W.iret rfl rfl (k0 (by rw [show n = 10 by omega] at hj; exact hj))
      · have c : ¬ nI 11 ≤ nI (n + 1) := c
        rw [nI_leI (by omega) (by omega)] at c
        omega
    | succ r ih =>
      intro n hn hj
      (repeat (first | refine pm_W.ts rfl rfl ?_ | refine pm_W.tl rfl rfl ?_))
      refine pm_W.icmp rfl (fun c => ?_) (fun c => ?_)
      · have c : nI 11 ≤ nI (n + 1) := c
        rw [nI_leI (by omega) (by omega)] at c
        omega
      · (repeat (first | refine pm_W.ts rfl rfl ?_ | refine pm_W.tl rfl rfl ?_ | refine pm_W.get rfl rfl h1 rfl ?_))
        refine pm_W.iald rfl h2 (pm_ix_ok (j := n + 1) (by rw [List.length_map]; omega) (by rw [List.length_map]; omega)) ?_
        rw [fr_mapD]
        have hk := bK (n + 1)
        refine pm_W.ifz rfl (fun c2 => ?_) (fun c2 => ?_)
        · have c2 : ¬ nI (tr_K S (n + 1)) = nI 0 := c2
          rw [nI_eq (by omega) (by omega)] at c2
          (repeat (first | refine pm_W.ts rfl rfl ?_ | refine pm_W.tl rfl rfl ?_))
          refine pm_W.goto rfl ?_
          have i1 := ih (n + 1) (by omega) (fun t ht1 ht2 => by
            by_cases e : t = n + 1
            · rw [e]; exact c2
            · exact hj t ht1 (by omega))
          rw [← fr_inc (n + 1)] at i1
          exact i1
        · have c2 : ¬ ¬ nI (tr_K S (n + 1)) = nI 0 := c2
          have c2 := Classical.not_not.mp c2
          rw [nI_eq (by omega) (by omega)] at c2
          (repeat (first | refine pm_W.ts rfl rfl ?_ | refine pm_W.tl rfl rfl ?_ | refine pm_W.get rfl rfl h1 rfl ?_))
          refine pm_W.iast rfl h2 (pm_ix_ok (j := n + 1) (by rw [List.length_map]; omega) (by rw [List.length_map]; omega)) ?_
          rw [← List.map_set]
          have c1 : pm_C := .inl (false, (S.1.set (n + 1) v).map nI)
          have h1a := fr_ne (c := .inl (false, (S.1.set (n + 1) v).map nI)) h1 (show a + 1 ≠ a by omega)
          have h2a := fr_set (c := .inl (false, (S.1.set (n + 1) v).map nI)) h2
          have h3a := fr_ne (c := .inl (false, (S.1.set (n + 1) v).map nI)) h3 (show a + 1 ≠ a + 2 by omega)
          have h4a := fr_ne (c := .inl (false, (S.1.set (n + 1) v).map nI)) h4 (show a + 1 ≠ a + 3 by omega)
          have h5a := fr_ne (c := .inl (false, (S.1.set (n + 1) v).map nI)) h5 (show a + 1 ≠ a + 4 by omega)
          (repeat (first | refine pm_W.ts rfl rfl ?_ | refine pm_W.tl rfl rfl ?_ | refine pm_W.get rfl rfl h1a rfl ?_))
          refine pm_W.iast rfl h3a (pm_ix_ok (j := n + 1) (by rw [List.length_map]; omega) (by rw [List.length_map]; omega)) ?_
          rw [← List.map_set]
          have h1b := fr_ne (c := .inl (false, (S.2.1.set (n + 1) w).map nI)) h1a (show a + 2 ≠ a by omega)
          have h2b := fr_ne (c := .inl (false, (S.2.1.set (n + 1) w).map nI)) h2a (show a + 2 ≠ a + 1 by omega)
          have h3b := fr_set (c := .inl (false, (S.2.1.set (n + 1) w).map nI)) h3a
          have h4b := fr_ne (c := .inl (false, (S.2.1.set (n + 1) w).map nI)) h4a (show a + 2 ≠ a + 3 by omega)
          have h5b := fr_ne (c := .inl (false, (S.2.1.set (n + 1) w).map nI)) h5a (show a + 2 ≠ a + 4 by omega)
          (repeat (first | refine pm_W.ts rfl rfl ?_ | refine pm_W.tl rfl rfl ?_ | refine pm_W.get rfl rfl h1b rfl ?_))
          refine pm_W.iast (x := tr_pv (some d)) rfl h4b (pm_ix_ok (j := n + 1) (by rw [List.length_map]; omega) (by rw [List.length_map]; omega)) ?_
          rw [← List.map_set]
          have h1c := fr_ne (c := .inl (false, (S.2.2.1.set (n + 1) (some d)).map tr_pv)) h1b (show a + 3 ≠ a by omega)
          have h2c := fr_ne (c := .inl (false, (S.2.2.1.set (n + 1) (some d)).map tr_pv)) h2b (show a + 3 ≠ a + 1 by omega)
          have h3c := fr_ne (c := .inl (false, (S.2.2.1.set (n + 1) (some d)).map tr_pv)) h3b (show a + 3 ≠ a + 2 by omega)
          have h4c := fr_set (c := .inl (false, (S.2.2.1.set (n + 1) (some d)).map tr_pv)) h4b
          have h5c := fr_ne (c := .inl (false, (S.2.2.1.set (n + 1) (some d)).map tr_pv)) h5b (show a + 3 ≠ a + 4 by omega)
          have hag : fr_ag (a + 1) (a + 4) h ((((h.1.set (a + 1) (.inl (false, (S.1.set (n + 1) v).map nI))).set (a + 2) (.inl (false, (S.2.1.set (n + 1) w).map nI))).set (a + 3) (.inl (false, (S.2.2.1.set (n + 1) (some d)).map tr_pv))), h.2) :=
            ((fr_agset (lo := a + 1) (hi := a + 4) (k := a + 1) (by omega) (by omega)).tr (fr_agset (lo := a + 1) (hi := a + 4) (k := a + 2) (by omega) (by omega))).tr (fr_agset (lo := a + 1) (hi := a + 4) (k := a + 3) (by omega) (by omega))
          (repeat (first | refine pm_W.ts rfl rfl ?_ | refine pm_W.tl rfl rfl ?_ | refine pm_W.get rfl rfl h1c rfl ?_))
          refine pm_W.aald rfl h5c (pm_ix_ok (j := n + 1) (by rw [tr_row_len]; omega) (by rw [tr_row_len]; omega)) (by decide) ?_
          rw [tr_rowD (by omega)]
          have hB := (h6 (n + 1) (by omega)).ag hag (by omega)
          obtain ⟨ys, r1, -⟩ := id hB
          refine pm_W.callV rfl rfl rfl rfl (fr_ble rfl) r1 (fr_ble rfl) (ct_B_clear hB (fun h' hB' hag' => ?_))
          (repeat (first | refine pm_W.ts rfl rfl ?_ | refine pm_W.tl rfl rfl ?_))
          refine pm_W.iret rfl rfl (k1 (n + 1) (by omega) (by omega) c2 (fun t ht1 ht2 => hj t ht1 (by omega)) h' ⟨hag'.at (by omega) h1c, hag'.at (by omega) h2c, hag'.at (by omega) h3c, hag'.at (by omega) h4c, hag'.at (by omega) h5c, fun t ht => ?_, tr_add_ok hok (by omega) hd hw hv⟩ ((hag.wide (by omega) (by omega)).tr (hag'.wide (by omega) (by omega))))
          show bt_R h' _ 16 (if t = n + 1 then [] else S.2.2.2 t)
          by_cases e : t = n + 1
          · subst e
            rw [if_pos rfl]
            exact hB'
          · rw [if_neg e]
            exact ((h6 t ht).ag hag (by omega)).ag hag' (by omega)
  unfold pm_X
  (iterate 2 (first | refine pm_W.ts rfl rfl ?_ | refine pm_W.tl rfl rfl ?_))
  exact loop 10 0 (by omega) (fun t h1 h2 => by omega)
end TREE2
