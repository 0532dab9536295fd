def dp_inb (im : Nat → dp_P) (w : Int32) : Bool := (List.range 4).any (fun i => (im i).any (fun q => decide (q.2 = w)))
theorem dp_inb_iff {im : Nat → dp_P} {w : Int32} : dp_inb im w = true ↔ dp_in im w := by
  unfold dp_inb dp_in
  rw [List.any_eq_true]
  constructor
  · rintro ⟨i, hi, h⟩
    obtain ⟨q, hq, e⟩ := List.any_eq_true.mp h
    obtain ⟨k, hk, rfl⟩ := List.getElem_of_mem hq
    refine ⟨i, List.mem_range.mp hi, k, hk, ?_⟩
    have e := of_decide_eq_true e
    rw [← e]
    simp [pl_i, hk]
  · rintro ⟨i, hi, k, hk, e⟩
    refine ⟨i, List.mem_range.mpr hi, List.any_eq_true.mpr ⟨(im i)[k], List.getElem_mem hk, decide_eq_true ?_⟩⟩
    rw [← e]
    simp [pl_i, hk]
def cl_go (im : Nat → dp_P) : Nat → dp_K → Nat → dp_K × Nat
  | 0, L, g => (L, g)
  | n + 1, L, g => if dp_inb im (kp_i L n) = true then cl_go im n L g else cl_go im n (L.eraseIdx n) (g + 1)
theorem fr_dec (n : Nat) : nI n + Int32.ofInt (-1) = nI n - Int32.ofInt 1 := by
  rw [Int32.sub_eq_add_neg]
  rfl
theorem fr_not1 {n : Nat} (hn : n < 2 ^ 31) : ¬ nI n = -1 := by
  intro e
  have : (nI n).toInt = -1 := by rw [e]; rfl
  rw [nI_toInt hn] at this
  omega
def dm_R (L : dp_K) (w a v : Int32) (L' : dp_K) : Prop := ∃ p, p < L.length ∧ kp_i L p = w ∧ (∀ j, j < p → kp_i L j ≠ w) ∧
  ((a = -1 ∧ L' = L.eraseIdx p) ∨ (a ≠ -1 ∧ ∃ i j : Nat, i < (kp_b L p).length ∧ a = nI i ∧ j < 256 ∧ v = nI j ∧ L' = L.set p (w, (kp_b L p).set i (nI j))))
def sp_R (ws : List Nat) (x v : Int32) (vs : List Nat) : Prop := (v = -1 ∧ ∃ i : Nat, i ≤ ws.length ∧ x = nI i ∧ vs = ws.take i) ∨ (∃ j : Nat, j < 256 ∧ v = nI j ∧ ∃ i : Nat, x = nI i ∧ ((i = ws.length ∧ i < 120 ∧ vs = ws ++ [j]) ∨ (i < ws.length ∧ vs = ws.set i j)))
section DEPOT2
variable {xs : List Int32} {h : pm_H} {b : Nat} {z : cz_N} {im : Nat → dp_P} {st ca : dp_K} {sd : Nat → List Int32 × dp_P} {ws ta : List Nat} {f : Bool} {S : tr_S} {Q : Option Value → pm_H → Prop}
theorem ct_D_collect (hb : dp_R h b z im st ca sd ws ta f S) (k : ∀ h' : pm_H, dp_R h' b z im (cl_go im st.length st 0).1 ca sd ws ta f S → fr_ag b (b + 185) h h' → Q (some (.int (nI (cl_go im st.length st 0).2))) h') : pm_X xs 2 mD_collect [.ref b] h Q := by
  have loop : ∀ (n : Nat) (L : dp_K) (g : Nat) (h1 : pm_H), n ≤ L.length → dp_R h1 b z im L ca sd ws ta f S → fr_ag b (b + 185) h h1 → cl_go im n L g = cl_go im st.length st 0 → pm_W xs 2 mD_collect 12 [.ref b, .int (nI g), .int (nI n - Int32.ofInt 1)] [] h1 Q := by
    intro n
    induction n with
    | zero =>
      intro L g h1 hn hb1 hag he
      (repeat (first | refine pm_W.ts rfl rfl ?_ | refine pm_W.tl rfl rfl ?_))
      refine pm_W.ifz rfl (fun c => ?_) (fun c => absurd (show nI 0 - Int32.ofInt 1 < 0 by decide) c)
      (repeat (first | refine pm_W.ts rfl rfl ?_ | refine pm_W.tl rfl rfl ?_))
      refine pm_W.iret rfl rfl ?_
      have := k h1 (by rw [← he]; exact hb1) hag
      rw [← he] at this
      exact this
    | succ n ih =>
      intro L g h1 hn hb1 hag he
      obtain ⟨c1, c2, c3, c4, c5, -⟩ := id hb1
      have hl : L.length ≤ 40 := by obtain ⟨ids, rows, -, -, -, -, -, g6, -⟩ := id c5; exact g6
      obtain ⟨ids, rows, s1, -⟩ := id c5
      have e1 : nI (n + 1) - Int32.ofInt 1 = nI n := nI_pred n
      rw [e1]
      rw [show cl_go im (n + 1) L g = if dp_inb im (kp_i L n) = true then cl_go im n L g else cl_go im n (L.eraseIdx n) (g + 1) from rfl] at he
      (repeat (first | refine pm_W.ts rfl rfl ?_ | refine pm_W.tl rfl rfl ?_))
      refine pm_W.ifz rfl (fun c => absurd c (nI_pos (by omega))) (fun c => ?_)
      (repeat (first | refine pm_W.ts rfl rfl ?_ | refine pm_W.tl rfl rfl ?_ | refine pm_W.get rfl rfl c1 rfl ?_))
      refine pm_W.callV (d' := 0) rfl rfl rfl rfl (fr_ble rfl) s1 (fr_ble rfl) (ct_K_idAt c5 (j := n) (by omega) ?_)
      refine pm_W.callV rfl rfl rfl rfl (fr_ble rfl) c1 (fr_ble rfl) (ct_D_isIdOfAnImage hb1 (fun hy => ?_) (fun hno => ?_))
      · rw [if_pos (dp_inb_iff.mpr hy)] at he
        refine pm_W.ifz rfl (fun c => ?_) (fun c => absurd (show ¬ (1 : Int32) = 0 by decide) c)
        (iterate 1 (first | refine pm_W.ts rfl rfl ?_ | refine pm_W.tl rfl rfl ?_))
        refine pm_W.goto rfl ?_
        rw [fr_dec]
        exact ih L g h1 (by omega) hb1 hag he
      · rw [if_neg (fun q => hno (dp_inb_iff.mp q))] at he
        refine pm_W.ifz rfl (fun c => absurd rfl c) (fun c => ?_)
        (repeat (first | refine pm_W.ts rfl rfl ?_ | refine pm_W.tl rfl rfl ?_ | refine pm_W.get rfl rfl c1 rfl ?_))
        refine pm_W.callV (d' := 0) rfl rfl rfl rfl (fr_ble rfl) s1 (fr_ble rfl) (ct_K_takeOut c5 (p := n) (by omega) (fun h2 hk2 hag2 => ?_))
        (iterate 3 (first | refine pm_W.ts rfl rfl ?_ | refine pm_W.tl rfl rfl ?_))
        refine pm_W.goto rfl ?_
        rw [fr_dec, fr_inc]
        exact ih (L.eraseIdx n) (g + 1) h2 (by rw [List.length_eraseIdx_of_lt (by omega)]; omega) (hb1.ust hk2 (hag2.wide (by omega) (by omega))) (hag.tr (hag2.wide (by omega) (by omega))) he
  obtain ⟨c1, c2, c3, c4, c5, -⟩ := id hb
  obtain ⟨ids, rows, s1, -⟩ := id c5
  unfold pm_X
  (repeat (first | refine pm_W.ts rfl rfl ?_ | refine pm_W.tl rfl rfl ?_ | refine pm_W.get rfl rfl c1 rfl ?_))
  refine pm_W.callV (d' := 0) rfl rfl rfl rfl (fr_ble rfl) s1 (fr_ble rfl) (ct_K_count c5 ?_)
  (iterate 3 (first | refine pm_W.ts rfl rfl ?_ | refine pm_W.tl rfl rfl ?_))
  exact loop st.length st 0 h (Nat.le_refl _) hb fr_ag.rf rfl
theorem ct_D_damageK {x y kk a v : Int32} {i k kp room : Nat} {L : dp_K} (hb : dp_R h b z im st ca sd ws ta f S) (hi : i < 4) (hk : k < (im i).length) (hL : kp_R h kp room L)
    (k1 : ∀ L' : dp_K, dm_R L (pl_i (im i) k) a v L' → ∀ h' : pm_H, kp_R h' kp room L' → fr_ag kp (kp + 3 + 2 * room) h h' → Q (some (.int 1)) h')
    (k0 : (∀ L' : dp_K, ¬ dm_R L (pl_i (im i) k) a v L') → Q (some (.int 0)) h) :
    pm_W xs 2 mD_damage 49 [.ref b, .int x, .int y, .int (nI k), .int a, .int v, .ref (b + 3 + 3 * i), .ref kp, pm_none, pm_none] [] h Q := by
  obtain ⟨c1, c2, c3, c4, -⟩ := id hb
  have hp := c4 i hi
  obtain ⟨es, is, p1, p2, p3, p4, p5, p6, p7, p8⟩ := id hp
  obtain ⟨ids, rows, s1, s2, s3, s4, s5, s6, s7, -⟩ := id hL
  have uniq : ∀ {p q : Nat} {w : Int32}, p < L.length → kp_i L p = w → (∀ j, j < p → kp_i L j ≠ w) → q < L.length → kp_i L q = w → (∀ j, j < q → kp_i L j ≠ w) → q = p := by
    intro p q w a1 a2 a3 b1 b2 b3
    rcases Nat.lt_trichotomy q p with t | t | t
    · exact absurd b2 (a3 q t)
    · exact t
    · exact absurd a2 (b3 p t)
  (repeat (first | refine pm_W.ts rfl rfl ?_ | refine pm_W.tl rfl rfl ?_))
  refine pm_W.callV rfl rfl rfl rfl (fr_ble rfl) p1 (fr_ble rfl) (ct_P_idOf hp hk ?_)
  (repeat (first | refine pm_W.ts rfl rfl ?_ | refine pm_W.tl rfl rfl ?_))
  refine pm_W.icmp rfl (fun c => ?_) (fun c => ?_)
  · have c : ¬ a = -1 := c
    (repeat (first | refine pm_W.ts rfl rfl ?_ | refine pm_W.tl rfl rfl ?_))
    refine pm_W.callV rfl rfl rfl rfl (fr_ble rfl) s1 (fr_ble rfl) (ct_K_bytesUnder hL (fun p r hp1 hp2 hp3 hr1 hr2 hbr hput => ?_) (fun hno => ?_))
    · (repeat (first | refine pm_W.ts rfl rfl ?_ | refine pm_W.tl rfl rfl ?_))
      refine pm_W.ifnullR rfl ?_
      (repeat (first | refine pm_W.ts rfl rfl ?_ | refine pm_W.tl rfl rfl ?_))
      refine pm_W.callS (d' := 0) rfl rfl rfl rfl (fr_ble rfl) (fr_ble rfl) (ct_D_isByte (fun j hj ej => ?_) (fun hnb => ?_))
      · refine pm_W.ifz rfl (fun c2 => absurd (show (1 : Int32) = 0 from c2) (by decide)) (fun c2 => ?_)
        (repeat (first | refine pm_W.ts rfl rfl ?_ | refine pm_W.tl rfl rfl ?_))
        obtain ⟨ys, r1, r2, r3, r4, r5, r6⟩ := id hbr
        refine pm_W.callV rfl rfl rfl rfl (fr_ble rfl) r1 (fr_ble rfl) (ct_B_change hbr (fun hn => ?_) (fun t g ht et hg hag => ?_))
        · refine pm_W.ifz rfl (fun c3 => ?_) (fun c3 => absurd rfl c3)
          (repeat (first | refine pm_W.ts rfl rfl ?_ | refine pm_W.tl rfl rfl ?_))
          refine pm_W.iret rfl rfl (k0 ?_)
          rintro L' ⟨q, q1, q2, q3, q4 | ⟨-, i2, j2, q5, q6, -⟩⟩
          · exact c q4.1
          · have e := uniq hp1 hp2 hp3 q1 q2 q3
            subst e
            rw [q6, show bt_has (kp_b L q) (nI i2) = true from decide_eq_true ⟨nI_pos' (by omega), nI_lt q5 (by omega)⟩] at hn
            cases hn
        · refine pm_W.ifz rfl (fun c3 => absurd (show (1 : Int32) = 0 from c3) (by decide)) (fun c3 => ?_)
          (repeat (first | refine pm_W.ts rfl rfl ?_ | refine pm_W.tl rfl rfl ?_))
          refine pm_W.goto rfl ?_
          rw [ej, fr_255 _ hj] at hg
          exact pm_W.iret rfl rfl (k1 _ ⟨p, hp1, hp2, hp3, Or.inr ⟨c, t, j, ht, et, hj, ej, rfl⟩⟩ g (hput _ g hg hag) (hag.wide (by omega) (by omega)))
      · refine pm_W.ifz rfl (fun c2 => ?_) (fun c2 => absurd rfl c2)
        (repeat (first | refine pm_W.ts rfl rfl ?_ | refine pm_W.tl rfl rfl ?_))
        refine pm_W.iret rfl rfl (k0 ?_)
        rintro L' ⟨q, q1, q2, q3, q4 | ⟨-, i2, j2, q5, q6, q7, q8, -⟩⟩
        · exact c q4.1
        · exact hnb j2 q7 q8
    · (repeat (first | refine pm_W.ts rfl rfl ?_ | refine pm_W.tl rfl rfl ?_))
      refine pm_W.ifnullN rfl ?_
      (repeat (first | refine pm_W.ts rfl rfl ?_ | refine pm_W.tl rfl rfl ?_))
      refine pm_W.iret rfl rfl (k0 ?_)
      rintro L' ⟨q, q1, q2, -⟩
      exact hno q q1 q2
  · have c : ¬ ¬ a = -1 := c
    have c := Classical.not_not.mp c
    (repeat (first | refine pm_W.ts rfl rfl ?_ | refine pm_W.tl rfl rfl ?_))
    refine pm_W.callV (d' := 0) rfl rfl rfl rfl (fr_ble rfl) s1 (fr_ble rfl) (ct_K_placeOf hL (fun p hp1 hp2 hp3 => ?_) (fun hno => ?_))
    · refine pm_W.callV (d' := 0) rfl rfl rfl rfl (fr_ble rfl) s1 (fr_ble rfl) (ct_K_takeOut hL hp1 (fun g hg hag => ?_))
      exact pm_W.iret rfl rfl (k1 _ ⟨p, hp1, hp2, hp3, Or.inl ⟨c, rfl⟩⟩ g hg (hag.wide (by omega) (by omega)))
    · refine pm_W.callV (d' := 0) rfl rfl rfl rfl (fr_ble rfl) s1 (fr_ble rfl) (ct_K_takeOutN hL ?_)
      refine pm_W.iret rfl rfl (k0 ?_)
      rintro L' ⟨q, q1, q2, -⟩
      exact hno q q1 q2
theorem ct_D_damage {x y kk a v : Int32} (hb : dp_R h b z im st ca sd ws ta f S)
    (k1 : ∀ i k : Nat, i < 4 → y = nI i → k < (im i).length → kk = nI k → x = 0 → ∀ L' : dp_K, dm_R st (pl_i (im i) k) a v L' → ∀ h' : pm_H, dp_R h' b z im L' ca sd ws ta f S → fr_ag b (b + 185) h h' → Q (some (.int 1)) h')
    (k2 : ∀ i k : Nat, i < 4 → y = nI i → k < (im i).length → kk = nI k → x = 1 → ∀ L' : dp_K, dm_R ca (pl_i (im i) k) a v L' → ∀ h' : pm_H, dp_R h' b z im st L' sd ws ta f S → fr_ag b (b + 185) h h' → Q (some (.int 1)) h')
    (k0 : (∀ i k : Nat, i < 4 → y = nI i → k < (im i).length → kk = nI k → (x = 0 → ∀ L' : dp_K, ¬ dm_R st (pl_i (im i) k) a v L') ∧ (x = 1 → ∀ L' : dp_K, ¬ dm_R ca (pl_i (im i) k) a v L')) → Q (some (.int 0)) h) :
    pm_X xs 2 mD_damage [.ref b, .int x, .int y, .int kk, .int a, .int v] h Q := by
  obtain ⟨c1, c2, c3, c4, c5, c6, -⟩ := id hb
  have no : ∀ v6 : Value, Q (some (.int 0)) h → pm_W xs 2 mD_damage 30 [.ref b, .int x, .int y, .int kk, .int a, .int v, v6, pm_none, pm_none, pm_none] [] h Q := by
    intro v6 q
    (repeat (first | refine pm_W.ts rfl rfl ?_ | refine pm_W.tl rfl rfl ?_))
    exact pm_W.iret rfl rfl q
  unfold pm_X
  (repeat (first | refine pm_W.ts rfl rfl ?_ | refine pm_W.tl rfl rfl ?_))
  refine pm_W.callV rfl rfl rfl rfl (fr_ble rfl) c1 (fr_ble rfl) (ct_D_imageNumbered hb (fun i hi e hne => ?_) (fun hno => ?_))
  · have hp := c4 i hi
    obtain ⟨es, is, p1, p2, p3, p4, p5, p6, p7, p8⟩ := id hp
    have same : ∀ {j : Nat}, j < 4 → y = nI j → j = i := fun hj ej => by
      rw [e, nI_eq (by omega) (by omega)] at ej
      exact ej.symm
    have here : (x = 0 ∨ x = 1) → pm_W xs 2 mD_damage 16 [.ref b, .int x, .int y, .int kk, .int a, .int v, .ref (b + 3 + 3 * i), pm_none, pm_none, pm_none] [] h Q := by
      intro hx
      (repeat (first | refine pm_W.ts rfl rfl ?_ | refine pm_W.tl rfl rfl ?_))
      refine pm_W.ifnullR rfl ?_
      (repeat (first | refine pm_W.ts rfl rfl ?_ | refine pm_W.tl rfl rfl ?_))
      refine pm_W.callV (d' := 0) rfl rfl rfl rfl (fr_ble rfl) p1 (fr_ble rfl) (ct_P_has hp ?_)
      refine pm_W.ifz rfl (fun d => ?_) (fun d => ?_)
      · have d := fr_b1 d
        obtain ⟨k, hk, rfl⟩ := pl_has_nat d p8
        have fin : (∀ (i2 k2 : Nat), i2 < 4 → y = nI i2 → k2 < (im i2).length → nI k = nI k2 → i2 = i ∧ k2 = k) := by
          intro i2 k2 h1 h2 h3 h4
          have e1 := same h1 h2
          subst e1
          rw [nI_eq (by omega) (by omega)] at h4
          exact ⟨rfl, h4.symm⟩
        (repeat (first | refine pm_W.ts rfl rfl ?_ | refine pm_W.tl rfl rfl ?_))
        refine pm_W.ifz rfl (fun q => ?_) (fun q => ?_)
        · have q : ¬ x = 0 := q
          have hx1 : x = 1 := hx.resolve_left q
          (iterate 3 (first | refine pm_W.ts rfl rfl ?_ | refine pm_W.tl rfl rfl ?_ | refine pm_W.get rfl rfl c1 rfl ?_))
          refine ct_D_damageK (x := x) (y := y) (kk := nI k) (room := 6) (kp := b + 98) hb hi hk c6 (fun L' hd g hg hag => k2 i k hi e hk rfl hx1 L' hd g (hb.uca hg (hag.wide (by omega) (by omega))) (hag.wide (by omega) (by omega))) (fun hn => k0 (fun i2 k2 h1 h2 h3 h4 => ?_))
          obtain ⟨rfl, rfl⟩ := fin i2 k2 h1 h2 h3 h4
          exact ⟨fun z => absurd z q, fun _ => hn⟩
        · have q : ¬ ¬ x = 0 := q
          have hx0 := Classical.not_not.mp q
          (repeat (first | refine pm_W.ts rfl rfl ?_ | refine pm_W.tl rfl rfl ?_ | refine pm_W.get rfl rfl c1 rfl ?_))
          refine pm_W.goto rfl ?_
          (iterate 1 (first | refine pm_W.ts rfl rfl ?_ | refine pm_W.tl rfl rfl ?_))
          refine ct_D_damageK (x := x) (y := y) (kk := nI k) (room := 40) (kp := b + 15) hb hi hk c5 (fun L' hd g hg hag => k1 i k hi e hk rfl hx0 L' hd g (hb.ust hg (hag.wide (by omega) (by omega))) (hag.wide (by omega) (by omega))) (fun hn => k0 (fun i2 k2 h1 h2 h3 h4 => ?_))
          obtain ⟨rfl, rfl⟩ := fin i2 k2 h1 h2 h3 h4
          exact ⟨fun _ => hn, fun z => absurd (hx0.symm.trans z) (by decide)⟩
      · have d : ¬ ¬ fr_b (pl_has (im i) kk) = 0 := d
        have d := fr_b0 (Classical.not_not.mp d)
        refine no _ (k0 (fun i2 k2 h1 h2 h3 h4 => ?_))
        have e1 := same h1 h2
        subst e1
        rw [h4, show pl_has (im i2) (nI k2) = true from decide_eq_true ⟨nI_pos' (by omega), nI_lt h3 (by omega)⟩] at d
        cases d
    (repeat (first | refine pm_W.ts rfl rfl ?_ | refine pm_W.tl rfl rfl ?_))
    refine pm_W.ifz rfl (fun q => here (Or.inl q)) (fun q => ?_)
    (repeat (first | refine pm_W.ts rfl rfl ?_ | refine pm_W.tl rfl rfl ?_))
    refine pm_W.icmp rfl (fun q2 => ?_) (fun q2 => ?_)
    · have q : ¬ x = 0 := q
      have q2 : ¬ x = 1 := q2
      exact no _ (k0 (fun i2 k2 h1 h2 h3 h4 => ⟨fun z => absurd z q, fun z => absurd z q2⟩))
    · have q2 : ¬ ¬ x = 1 := q2
      exact here (Or.inr (Classical.not_not.mp q2))
  · have all : Q (some (.int 0)) h := k0 (fun i k hi e hk => by rw [hno i hi e] at hk; cases hk)
    (repeat (first | refine pm_W.ts rfl rfl ?_ | refine pm_W.tl rfl rfl ?_))
    refine pm_W.ifz rfl (fun q => ?_) (fun q => ?_)
    · (repeat (first | refine pm_W.ts rfl rfl ?_ | refine pm_W.tl rfl rfl ?_))
      refine pm_W.ifnullN rfl ?_
      exact no _ all
    · (repeat (first | refine pm_W.ts rfl rfl ?_ | refine pm_W.tl rfl rfl ?_))
      refine pm_W.icmp rfl (fun q2 => no _ all) (fun q2 => ?_)
      (repeat (first | refine pm_W.ts rfl rfl ?_ | refine pm_W.tl rfl rfl ?_))
      refine pm_W.ifnullN rfl ?_
      exact no _ all
theorem ct_D_alter {x a v : Int32} (hb : dp_R h b z im st ca sd ws ta f S) (k1 : ∀ i t j : Nat, i < 2 → x = nI i → t < (sd i).1.length → a = nI t → j < 256 → v = nI j → ∀ h' : pm_H, dp_R h' b z im st ca (fr_up sd i ((sd i).1.set t (nI j), (sd i).2)) ws ta f S → fr_ag b (b + 185) h h' → Q (some (.int 1)) h')
    (k0 : (∀ i t j : Nat, i < 2 → x = nI i → t < (sd i).1.length → a = nI t → j < 256 → v ≠ nI j) → Q (some (.int 0)) h) : pm_X xs 2 mD_alter [.ref b, .int x, .int a, .int v] h Q := by
  obtain ⟨c1, c2, c3, c4, c5, c6, c7, c8, -⟩ := id hb
  unfold pm_X
  (repeat (first | refine pm_W.ts rfl rfl ?_ | refine pm_W.tl rfl rfl ?_))
  refine pm_W.callS (d' := 0) rfl rfl rfl rfl (fr_ble rfl) (fr_ble rfl) (ct_D_isSeed (fun i hi ei => ?_) (fun hn => ?_))
  · refine pm_W.ifz rfl (fun c => absurd (show (1 : Int32) = 0 from c) (by decide)) (fun c => ?_)
    (repeat (first | refine pm_W.ts rfl rfl ?_ | refine pm_W.tl rfl rfl ?_))
    refine pm_W.callS (d' := 0) rfl rfl rfl rfl (fr_ble rfl) (fr_ble rfl) (ct_D_isByte (fun j hj ej => ?_) (fun hn => ?_))
    · refine pm_W.ifz rfl (fun c => absurd (show (1 : Int32) = 0 from c) (by decide)) (fun c => ?_)
      subst ei
      (repeat (first | refine pm_W.ts rfl rfl ?_ | refine pm_W.tl rfl rfl ?_ | refine pm_W.get rfl rfl c1 rfl ?_))
      refine pm_W.aald rfl c7 (pm_ix_ok (j := i) hi (show 2 < 2 ^ 31 by omega)) (by decide) ?_
      rw [dp_sd2 hi]
      have hs := c8 i hi
      refine pm_W.callV (d' := 0) rfl rfl rfl rfl (fr_ble rfl) hs.1 (fr_ble rfl) (ct_S_bytes hs ?_)
      (repeat (first | refine pm_W.ts rfl rfl ?_ | refine pm_W.tl rfl rfl ?_))
      obtain ⟨ys, b1, b2, b3, b4, b5, b6⟩ := id hs.2.1
      refine pm_W.callV rfl rfl rfl rfl (fr_ble rfl) b1 (fr_ble rfl) (ct_B_change hs.2.1 (fun hn => ?_) (fun t g ht et hg hag => ?_))
      · refine pm_W.ifz rfl (fun c3 => ?_) (fun c3 => absurd rfl c3)
        (repeat (first | refine pm_W.ts rfl rfl ?_ | refine pm_W.tl rfl rfl ?_))
        refine pm_W.iret rfl rfl (k0 (fun i2 t2 j2 h1 h2 h3 h4 h5 h6 => ?_))
        rw [nI_eq (by omega) (by omega)] at h2
        subst h2
        rw [h4, show bt_has (sd i).1 (nI t2) = true from decide_eq_true ⟨nI_pos' (by omega), nI_lt h3 (by omega)⟩] at hn
        cases hn
      · refine pm_W.ifz rfl (fun c3 => absurd (show (1 : Int32) = 0 from c3) (by decide)) (fun c3 => ?_)
        (repeat (first | refine pm_W.ts rfl rfl ?_ | refine pm_W.tl rfl rfl ?_))
        refine pm_W.goto rfl ?_
        rw [ej, fr_255 _ hj] at hg
        exact pm_W.iret rfl rfl (k1 i t j hi rfl ht et hj ej g (hb.usd hi ⟨hag.at (by omega) hs.1, hg, hs.2.2.ag hag (by omega)⟩ (hag.wide (by omega) (by omega))) (hag.wide (by omega) (by omega)))
    · refine pm_W.ifz rfl (fun c2 => ?_) (fun c2 => absurd rfl c2)
      (repeat (first | refine pm_W.ts rfl rfl ?_ | refine pm_W.tl rfl rfl ?_))
      exact pm_W.iret rfl rfl (k0 (fun i2 t2 j2 h1 h2 h3 h4 h5 => hn j2 h5))
  · refine pm_W.ifz rfl (fun c2 => ?_) (fun c2 => absurd rfl c2)
    (repeat (first | refine pm_W.ts rfl rfl ?_ | refine pm_W.tl rfl rfl ?_))
    exact pm_W.iret rfl rfl (k0 (fun i2 t2 j2 h1 h2 => absurd h2 (hn i2 h1)))
theorem ct_D_scan {x : Int32} (hb : dp_R h b z im st ca sd ws ta f S) (hz : cz_ok z) (k1 : ∀ i : Nat, i < 2 → x = nI i → ∀ h' : pm_H, dp_R h' b z im st ca (fr_up sd i ((sd i).1, (cz_cut z (sd i).1 (sd i).1.length).1)) ws ta f S → fr_ag b (b + 185) h h' → Q (some (.int (nI (cz_cut z (sd i).1 (sd i).1.length).1.length))) h')
    (k0 : (∀ i : Nat, i < 2 → x ≠ nI i) → Q (some (.int (-1))) h) : pm_X xs 6 mD_scan [.ref b, .int x] h Q := by
  obtain ⟨c1, c2, c3, c4, c5, c6, c7, c8, -⟩ := id hb
  unfold pm_X
  (repeat (first | refine pm_W.ts rfl rfl ?_ | refine pm_W.tl rfl rfl ?_))
  refine pm_W.callS (d' := 0) rfl rfl rfl rfl (fr_ble rfl) (fr_ble rfl) (ct_D_isSeed (fun i hi ei => ?_) (fun hn => ?_))
  · refine pm_W.ifz rfl (fun c => absurd (show (1 : Int32) = 0 from c) (by decide)) (fun c => ?_)
    subst ei
    (repeat (first | refine pm_W.ts rfl rfl ?_ | refine pm_W.tl rfl rfl ?_ | refine pm_W.get rfl rfl c1 rfl ?_))
    refine pm_W.aald rfl c7 (pm_ix_ok (j := i) hi (show 2 < 2 ^ 31 by omega)) (by decide) ?_
    rw [dp_sd2 hi]
    have hs := c8 i hi
    (repeat (first | refine pm_W.ts rfl rfl ?_ | refine pm_W.tl rfl rfl ?_ | refine pm_W.get rfl rfl c1 rfl ?_))
    have hl : (sd i).1.length ≤ 117 := by obtain ⟨ys, -, -, -, -, g, -⟩ := id hs.2.1; exact g
    refine pm_W.callV rfl rfl rfl rfl (fr_ble rfl) hs.1 (fr_ble rfl) (ct_S_cutWith hs c2 hz hl (by omega) (fun g hg hag => ?_))
    refine pm_W.goto rfl ?_
    exact pm_W.iret rfl rfl (k1 i hi rfl g (hb.usd hi hg hag) (hag.wide (by omega) (by omega)))
  · refine pm_W.ifz rfl (fun c2 => ?_) (fun c2 => absurd rfl c2)
    (repeat (first | refine pm_W.ts rfl rfl ?_ | refine pm_W.tl rfl rfl ?_))
    exact pm_W.iret rfl rfl (k0 hn)
theorem ct_D_counts {x : Int32} (hb : dp_R h b z im st ca sd ws ta f S) (k1 : ∀ i : Nat, i < 4 → x = nI i → Q (some (.int (nI (ta.getD i 0)))) h) (k0 : (∀ i : Nat, i < 4 → x ≠ nI i) → Q (some (.int (-1))) h) : pm_X xs 0 mD_counts [.ref b, .int x] h Q := by
  obtain ⟨c1, c2, c3, c4, c5, c6, c7, c8, c9, c10, c11, c12, -⟩ := id hb
  unfold pm_X
  (repeat (first | refine pm_W.ts rfl rfl ?_ | refine pm_W.tl rfl rfl ?_))
  refine pm_W.ifz rfl (fun c => ?_) (fun c => ?_)
  · (repeat (first | refine pm_W.ts rfl rfl ?_ | refine pm_W.tl rfl rfl ?_))
    exact pm_W.iret rfl rfl (k0 (fr_no (by omega) (Or.inl c)))
  · (repeat (first | refine pm_W.ts rfl rfl ?_ | refine pm_W.tl rfl rfl ?_))
    refine pm_W.icmp rfl (fun c2 => ?_) (fun c2 => ?_)
    · (repeat (first | refine pm_W.ts rfl rfl ?_ | refine pm_W.tl rfl rfl ?_))
      exact pm_W.iret rfl rfl (k0 (fr_no (n := 4) (by omega) (Or.inr c2)))
    · obtain ⟨i, hi, rfl⟩ := fr_4 (n := 4) c (by omega) c2
      (repeat (first | refine pm_W.ts rfl rfl ?_ | refine pm_W.tl rfl rfl ?_ | refine pm_W.get rfl rfl c1 rfl ?_))
      refine pm_W.iald rfl c11 (pm_ix_ok (j := i) (by rw [List.length_map]; omega) (by rw [List.length_map]; omega)) ?_
      rw [fr_mapD]
      refine pm_W.goto rfl ?_
      exact pm_W.iret rfl rfl (k1 i hi rfl)
theorem ct_D_output {x : Int32} (hb : dp_R h b z im st ca sd ws ta f S) (kl : x = -1 → Q (some (.int (nI ws.length))) h) (k1 : ∀ i : Nat, i < ws.length → x = nI i → Q (some (.int (nI (rd_w ws i)))) h) (k0 : x ≠ -1 → (∀ i : Nat, i < ws.length → x ≠ nI i) → Q (some (.int (-2))) h) : pm_X xs 2 mD_output [.ref b, .int x] h Q := by
  obtain ⟨c1, c2, c3, c4, c5, c6, c7, c8, c9, c10, -⟩ := id hb
  obtain ⟨ys, b1, b2, b3, b4, b5, b6⟩ := id c10
  rw [List.length_map] at b5
  unfold pm_X
  (repeat (first | refine pm_W.ts rfl rfl ?_ | refine pm_W.tl rfl rfl ?_))
  refine pm_W.icmp rfl (fun c => ?_) (fun c => ?_)
  · have c : ¬ x = -1 := c
    (repeat (first | refine pm_W.ts rfl rfl ?_ | refine pm_W.tl rfl rfl ?_ | refine pm_W.get rfl rfl c1 rfl ?_))
    refine pm_W.callV (d' := 0) rfl rfl rfl rfl (fr_ble rfl) b1 (fr_ble rfl) (ct_B_has c10 ?_)
    refine pm_W.ifz rfl (fun d => ?_) (fun d => ?_)
    · have d := fr_b0 d
      (repeat (first | refine pm_W.ts rfl rfl ?_ | refine pm_W.tl rfl rfl ?_))
      refine pm_W.iret rfl rfl (k0 c (fun i hi e => ?_))
      rw [e, rd_has (by omega) (by omega), decide_eq_true hi] at d
      cases d
    · have d := fr_b1 d
      obtain ⟨i, hi, rfl⟩ := bt_has_nat d (by rw [List.length_map]; omega)
      rw [List.length_map] at hi
      (repeat (first | refine pm_W.ts rfl rfl ?_ | refine pm_W.tl rfl rfl ?_ | refine pm_W.get rfl rfl c1 rfl ?_))
      refine pm_W.callV rfl rfl rfl rfl (fr_ble rfl) b1 (fr_ble rfl) (ct_B_at c10 ?_)
      rw [rd_at (by omega) (by omega)]
      refine pm_W.goto rfl ?_
      exact pm_W.iret rfl rfl (k1 i hi rfl)
  · have c : ¬ ¬ x = -1 := c
    (repeat (first | refine pm_W.ts rfl rfl ?_ | refine pm_W.tl rfl rfl ?_ | refine pm_W.get rfl rfl c1 rfl ?_))
    refine pm_W.callV (d' := 0) rfl rfl rfl rfl (fr_ble rfl) b1 (fr_ble rfl) (ct_B_count c10 ?_)
    rw [List.length_map]
    exact pm_W.iret rfl rfl (kl (Classical.not_not.mp c))
theorem ct_D_spoil {x v : Int32} (hb : dp_R h b z im st ca sd ws ta f S) (k1 : ∀ vs : List Nat, sp_R ws x v vs → ∀ h' : pm_H, dp_R h' b z im st ca sd vs ta f S → fr_ag b (b + 185) h h' → Q (some (.int 1)) h') (k0 : (∀ vs, ¬ sp_R ws x v vs) → Q (some (.int 0)) h) : pm_X xs 2 mD_spoil [.ref b, .int x, .int v] h Q := by
  obtain ⟨c1, c2, c3, c4, c5, c6, c7, c8, c9, c10, -⟩ := id hb
  obtain ⟨ys, b1, b2, b3, b4, b5, b6⟩ := id c10
  rw [List.length_map] at b5
  unfold pm_X
  (repeat (first | refine pm_W.ts rfl rfl ?_ | refine pm_W.tl rfl rfl ?_))
  refine pm_W.icmp rfl (fun c => ?_) (fun c => ?_)
  · have c : ¬ v = -1 := c
    (repeat (first | refine pm_W.ts rfl rfl ?_ | refine pm_W.tl rfl rfl ?_))
    refine pm_W.callS (d' := 0) rfl rfl rfl rfl (fr_ble rfl) (fr_ble rfl) (ct_D_isByte (fun j hj ej => ?_) (fun hn => ?_))
    · refine pm_W.ifz rfl (fun d => ?_) (fun d => absurd (show ¬ (1 : Int32) = 0 by decide) d)
      (repeat (first | refine pm_W.ts rfl rfl ?_ | refine pm_W.tl rfl rfl ?_ | refine pm_W.get rfl rfl c1 rfl ?_))
      refine pm_W.callV (d' := 0) rfl rfl rfl rfl (fr_ble rfl) b1 (fr_ble rfl) (ct_B_count c10 ?_)
      rw [List.length_map]
      refine pm_W.icmp rfl (fun e => ?_) (fun e => ?_)
      · have e : ¬ x = nI ws.length := e
        (repeat (first | refine pm_W.ts rfl rfl ?_ | refine pm_W.tl rfl rfl ?_ | refine pm_W.get rfl rfl c1 rfl ?_))
        refine pm_W.callV rfl rfl rfl rfl (fr_ble rfl) b1 (fr_ble rfl) (ct_B_change c10 (fun hno => ?_) (fun t g ht et hg hag => ?_))
        · refine pm_W.iret rfl rfl (k0 (fun vs hs => ?_))
          rcases hs with ⟨q, -⟩ | ⟨j2, q1, q2, i, q3, q4 | q4⟩
          · exact c q
          · exact e (by rw [q3, q4.1])
          · rw [q3, rd_has (by omega) (by omega), decide_eq_true q4.1] at hno
            cases hno
        · rw [List.length_map] at ht
          rw [ej, fr_255 _ hj, ← List.map_set] at hg
          exact pm_W.iret rfl rfl (k1 (ws.set t j) (Or.inr ⟨j, hj, ej, t, et, Or.inr ⟨ht, rfl⟩⟩) g (hb.uws hg hag) (hag.wide (by omega) (by omega)))
      · have e : ¬ ¬ x = nI ws.length := e
        have e := Classical.not_not.mp e
        (repeat (first | refine pm_W.ts rfl rfl ?_ | refine pm_W.tl rfl rfl ?_ | refine pm_W.get rfl rfl c1 rfl ?_))
        refine pm_W.callV (d' := 0) rfl rfl rfl rfl (fr_ble rfl) b1 (fr_ble rfl) (ct_B_add c10 (fun hl => ?_) (fun hl g hg hag => ?_))
        · rw [List.length_map] at hl
          refine pm_W.goto rfl ?_
          refine pm_W.iret rfl rfl (k0 (fun vs hs => ?_))
          rcases hs with ⟨q, -⟩ | ⟨j2, q1, q2, i, q3, q4 | q4⟩
          · exact c q
          · omega
          · rw [e, nI_eq (by omega) (by omega)] at q3
            omega
        · rw [List.length_map] at hl
          refine pm_W.goto rfl ?_
          rw [ej, fr_255 _ hj, show ws.map nI ++ [nI j] = (ws ++ [j]).map nI from by rw [List.map_append]; rfl] at hg
          exact pm_W.iret rfl rfl (k1 (ws ++ [j]) (Or.inr ⟨j, hj, ej, ws.length, e, Or.inl ⟨rfl, hl, rfl⟩⟩) g (hb.uws hg hag) (hag.wide (by omega) (by omega)))
    · refine pm_W.ifz rfl (fun d => absurd rfl d) (fun d => ?_)
      (repeat (first | refine pm_W.ts rfl rfl ?_ | refine pm_W.tl rfl rfl ?_))
      refine pm_W.iret rfl rfl (k0 (fun vs hs => ?_))
      rcases hs with ⟨q, -⟩ | ⟨j2, q1, q2, -⟩
      · exact c q
      · exact hn j2 q1 q2
  · have c : ¬ ¬ v = -1 := c
    have c := Classical.not_not.mp c
    (repeat (first | refine pm_W.ts rfl rfl ?_ | refine pm_W.tl rfl rfl ?_ | refine pm_W.get rfl rfl c1 rfl ?_))
    refine pm_W.callV (d' := 0) rfl rfl rfl rfl (fr_ble rfl) b1 (fr_ble rfl) (ct_B_keepFirst c10 (fun hno => ?_) (fun t g ht et hg hag => ?_))
    · refine pm_W.iret rfl rfl (k0 (fun vs hs => ?_))
      rcases hs with ⟨-, i, q1, q2, -⟩ | ⟨j2, q1, q2, -⟩
      · rw [List.length_map] at hno
        exact hno ⟨by rw [q2]; exact nI_pos' (by omega), by rw [q2]; exact nI_le q1 (by omega)⟩
      · exact fr_not1 (n := j2) (by omega) (q2.symm.trans c)
    · rw [List.length_map] at ht
      rw [← List.map_take] at hg
      exact pm_W.iret rfl rfl (k1 (ws.take t) (Or.inl ⟨c, t, ht, et, rfl⟩) g (hb.uws hg hag) (hag.wide (by omega) (by omega)))
end DEPOT2
