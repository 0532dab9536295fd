def mk (A : Nat → List Int32) (b : Nat) (L : dp_K) : Prop := ∀ j, j < L.length → (A 13).getD (b + j) 0 = kp_i L j ∧ (A 14).getD (b + j) 0 = nI (kp_b L j).length ∧ (kp_b L j).length ≤ 32 ∧ mb A (480 + 32 * (b + j)) (kp_b L j)
section MKEEP
variable {xs : List Int32} {h : pm_H} {o : Nat} {A : Nat → List Int32} {I : Nat → Int32} {L : dp_K} {Q : Option Value → pm_H → Prop}
theorem ex_kp_ok {w : Int32} {j : Nat} (hj : j < L.length) (hw : kp_i L j = w) (hn : ∀ i, i < j → kp_i L i ≠ w) : ex_kp L w = some j := by
  cases h : ex_kp L w with
  | some i =>
    obtain ⟨h1, h2, h3⟩ := fr_find_some h
    have h2 := of_decide_eq_true h2
    rcases Nat.lt_trichotomy i j with c | c | c
    · exact absurd h2 (hn i c)
    · rw [c]
    · have := h3 j c
      exact absurd hw (of_decide_eq_false this)
  | none =>
    have all : ∀ m, fr_find (fun j => decide (kp_i L j = w)) m = none → ∀ j, j < m → kp_i L j ≠ w := by
      intro m
      induction m with
      | zero => intro _ j hj; omega
      | succ m im =>
        intro hm j hj
        unfold fr_find at hm
        cases hm2 : fr_find (fun j => decide (kp_i L j = w)) m with
        | some x => rw [hm2] at hm; cases hm
        | none =>
          rw [hm2] at hm
          by_cases e : j = m
          · subst e
            intro z
            simp [z] at hm
          · exact im hm2 j (by omega)
    exact absurd hw (all _ h j hj)
theorem ex_kp_no {w : Int32} (hn : ∀ i, i < L.length → kp_i L i ≠ w) : ex_kp L w = none := by
  cases h : ex_kp L w with
  | none => rfl
  | some i =>
    obtain ⟨h1, h2, h3⟩ := fr_find_some h
    exact absurd (of_decide_eq_true h2) (hn i h1)
theorem ct_M_find {q : Nat} {w : Int32} (hb : mr_R h o A I) (hm : mk A (40 * q) L) (hq : (q = 0 ∧ I 5 = nI L.length ∧ L.length ≤ 40) ∨ (q = 1 ∧ I 6 = nI L.length ∧ L.length ≤ 6))
    (k1 : ∀ j, ex_kp L w = some j → j < L.length → Q (some (.int (nI (40 * q + j)))) h) (k0 : ex_kp L w = none → Q (some (.int (-1))) h) : pm_X xs 0 mM_find [.ref o, .int (nI q), .int w] h Q := by
  have h1 := hb.1
  have hql : 40 * q + L.length ≤ 46 ∧ q ≤ 1 := by omega
  have loop : ∀ (r j : Nat), j + r = L.length → (∀ i, i < j → kp_i L i ≠ w) → pm_W xs 0 mM_find 22 [.ref o, .int (nI q), .int w, .int (nI L.length), .int (nI (40 * q + j))] [] h Q := by
    intro r
    induction r with
    | zero =>
      intro j hj hn
      have e : j = L.length := by omega
      subst e
      (repeat (first | refine pm_W.ts rfl rfl ?_ | refine pm_W.tl rfl rfl ?_))
      refine pm_W.icmp rfl (fun _ => ?_) (fun c => ?_)
      · (repeat (first | refine pm_W.ts rfl rfl ?_ | refine pm_W.tl rfl rfl ?_))
        exact pm_W.iret rfl rfl (k0 (ex_kp_no hn))
      · have c : ¬ nI 40 * nI q + nI L.length ≤ nI (40 * q + L.length) := c
        rw [fr_mul, nI_add, nI_leI (by omega) (by omega)] at c
        omega
    | succ r ih =>
      intro j hj hn
      (repeat (first | refine pm_W.ts rfl rfl ?_ | refine pm_W.tl rfl rfl ?_))
      refine pm_W.icmp rfl (fun c => ?_) (fun _ => ?_)
      · have c : nI 40 * nI q + nI L.length ≤ nI (40 * q + j) := c
        rw [fr_mul, nI_add, nI_leI (by omega) (by omega)] at c
        omega
      · (repeat (first | refine pm_W.ts rfl rfl ?_ | refine pm_W.tl rfl rfl ?_ | refine pm_W.get rfl rfl h1 rfl ?_))
        refine mr_ld (i := 13) hb rfl rfl rfl rfl (show 40 * q + j < 46 by omega) ?_
        rw [(hm j (by omega)).1]
        (repeat (first | refine pm_W.ts rfl rfl ?_ | refine pm_W.tl rfl rfl ?_))
        refine pm_W.icmp rfl (fun c => ?_) (fun c => ?_)
        · (repeat (first | refine pm_W.ts rfl rfl ?_ | refine pm_W.tl rfl rfl ?_))
          refine pm_W.goto rfl ?_
          rw [fr_inc]
          refine ih (j + 1) (by omega) (fun i hi => ?_)
          by_cases z : i = j
          · rw [z]; exact c
          · exact hn i (by omega)
        · (repeat (first | refine pm_W.ts rfl rfl ?_ | refine pm_W.tl rfl rfl ?_))
          exact pm_W.iret rfl rfl (k1 j (ex_kp_ok (by omega) (Decidable.not_not.mp c) hn) (by omega))
  unfold pm_X
  (repeat (first | refine pm_W.ts rfl rfl ?_ | refine pm_W.tl rfl rfl ?_))
  rcases hq with ⟨rfl, e, e2⟩ | ⟨rfl, e, e2⟩
  · refine pm_W.ifz rfl (fun z => absurd (show (0 : Int32) = 0 from rfl) z) (fun _ => ?_)
    (repeat (first | refine pm_W.ts rfl rfl ?_ | refine pm_W.tl rfl rfl ?_ | refine pm_W.get rfl rfl h1 rfl ?_))
    rw [e]
    refine pm_W.goto rfl ?_
    (iterate 5 (first | refine pm_W.ts rfl rfl ?_ | refine pm_W.tl rfl rfl ?_))
    exact loop L.length 0 (by omega) (fun i hi => by omega)
  · refine pm_W.ifz rfl (fun _ => ?_) (fun z => absurd (show ¬ (1 : Int32) = 0 by decide) z)
    (iterate 2 (first | refine pm_W.ts rfl rfl ?_ | refine pm_W.tl rfl rfl ?_ | refine pm_W.get rfl rfl h1 rfl ?_))
    rw [e]
    (iterate 5 (first | refine pm_W.ts rfl rfl ?_ | refine pm_W.tl rfl rfl ?_))
    exact loop L.length 0 (by omega) (fun i hi => by omega)
theorem ct_M_good {b j n : Nat} {w : Int32} (hb : mr_R h o A I) (hm : mk A b L) (hj : j < L.length) (hbl : b + L.length ≤ 46) (hn : n ≤ 1000) (k : Q (some (.int (fr_b (decide ((kp_b L j).length = n ∧ bt_id (kp_b L j) 0 n = w))))) h) : pm_X xs 1 mM_good [.ref o, .int (nI (b + j)), .int w, .int (nI n)] h Q := by
  have h1 := hb.1
  obtain ⟨m1, m2, m3, m4⟩ := hm j hj
  have no : ¬ ((kp_b L j).length = n ∧ bt_id (kp_b L j) 0 n = w) → pm_W xs 1 mM_good 35 [.ref o, .int (nI (b + j)), .int w, .int (nI n)] [] h Q := by
    intro c
    (repeat (first | refine pm_W.ts rfl rfl ?_ | refine pm_W.tl rfl rfl ?_))
    rw [fr_bf (decide_eq_false c)] at k
    exact pm_W.iret rfl rfl k
  unfold pm_X
  (repeat (first | refine pm_W.ts rfl rfl ?_ | refine pm_W.tl rfl rfl ?_))
  refine pm_W.ifz rfl (fun z => absurd z (nI_pos (by omega))) (fun _ => ?_)
  (repeat (first | refine pm_W.ts rfl rfl ?_ | refine pm_W.tl rfl rfl ?_ | refine pm_W.get rfl rfl h1 rfl ?_))
  refine mr_ld (i := 14) hb rfl rfl rfl rfl (show b + j < 46 by omega) ?_
  rw [m2]
  (repeat (first | refine pm_W.ts rfl rfl ?_ | refine pm_W.tl rfl rfl ?_))
  refine pm_W.icmp rfl (fun c => no (fun z => ?_)) (fun c => ?_)
  · rw [z.1] at c
    exact c rfl
  · have c : ¬ ¬ nI (kp_b L j).length = nI n := c
    rw [nI_eq (by omega) (by omega)] at c
    have c := Decidable.not_not.mp c
    have e : nI 480 + nI 32 * nI (b + j) = nI (480 + 32 * (b + j) + 0) := by rw [fr_mul, nI_add, Nat.add_zero]
    (iterate 7 (first | refine pm_W.ts rfl rfl ?_ | refine pm_W.tl rfl rfl ?_))
    show pm_W xs 1 mM_good _ _ [.int (nI n), .int (nI 480 + nI 32 * nI (b + j)), .ref o] h Q
    rw [e]
    refine pm_W.callV (d' := 0) (as := [.int (nI (480 + 32 * (b + j) + 0)), .int (nI n)]) rfl rfl rfl rfl (fr_ble rfl) h1 (fr_ble rfl) (ct_M_digest (bs := kp_b L j) (s := 0) hb m4 (by omega) (by omega) (by omega) ?_)
    (repeat (first | refine pm_W.ts rfl rfl ?_ | refine pm_W.tl rfl rfl ?_))
    refine pm_W.icmp rfl (fun d => no (fun z => d z.2)) (fun d => ?_)
    (repeat (first | refine pm_W.ts rfl rfl ?_ | refine pm_W.tl rfl rfl ?_))
    refine pm_W.goto rfl ?_
    rw [fr_bt (decide_eq_true ⟨c, Decidable.not_not.mp d⟩)] at k
    exact pm_W.iret rfl rfl k
theorem ct_M_keep {s f n : Nat} {w : Int32} (hb : mr_R h o A I) (hs : s < 46) (hn : n ≤ 32) (hf : f + n ≤ 1952) (hd : f + n ≤ 480 + 32 * s ∨ 480 + 32 * s + 32 ≤ f)
    (k : ∀ (g : pm_H) (B : Nat → List Int32), mr_R g o B I → B 13 = (A 13).set s w → B 14 = (A 14).set s (nI n) → (∀ i, i ≠ 1 → i ≠ 13 → i ≠ 14 → B i = A i) → (∀ j, j < 480 + 32 * s ∨ 480 + 32 * s + n ≤ j → (B 1).getD j 0 = (A 1).getD j 0) → (∀ i, i < n → (B 1).getD (480 + 32 * s + i) 0 = (A 1).getD (f + i) 0) → fr_ag o (o + 15) h g → Q none g) : pm_X xs 0 mM_keep [.ref o, .int (nI s), .int w, .int (nI f), .int (nI n)] h Q := by
  have h1 := hb.1
  have loop : ∀ (r i : Nat) (g : pm_H) (B : Nat → List Int32), i + r = n → mr_R g o B I → B 13 = (A 13).set s w → B 14 = (A 14).set s (nI n) → (∀ i, i ≠ 1 → i ≠ 13 → i ≠ 14 → B i = A i) → (∀ j, j < 480 + 32 * s ∨ 480 + 32 * s + i ≤ j → (B 1).getD j 0 = (A 1).getD j 0) → (∀ t, t < i → (B 1).getD (480 + 32 * s + t) 0 = (A 1).getD (f + t) 0) → fr_ag o (o + 15) h g → pm_W xs 0 mM_keep 18 [.ref o, .int (nI s), .int w, .int (nI f), .int (nI n), .int (nI i)] [] g Q := by
    intro r
    induction r with
    | zero =>
      intro i g B hi hB b1 b2 b3 b4 b5 hag
      have e : i = n := by omega
      subst e
      (repeat (first | refine pm_W.ts rfl rfl ?_ | refine pm_W.tl rfl rfl ?_))
      refine pm_W.icmp rfl (fun _ => pm_W.ret rfl rfl (k g B hB b1 b2 b3 b4 b5 hag)) (fun c => ?_)
      have c : ¬ nI i ≤ nI i := c
      rw [nI_leI (by omega) (by omega)] at c
      omega
    | succ r ih =>
      intro i g B hi hB b1 b2 b3 b4 b5 hag
      have t1 := hB.1
      have m1 : (B 1).length = 1952 := hB.len (i := 1) rfl rfl
      (repeat (first | refine pm_W.ts rfl rfl ?_ | refine pm_W.tl rfl rfl ?_))
      refine pm_W.icmp rfl (fun c => ?_) (fun _ => ?_)
      · have c : nI n ≤ nI i := c
        rw [nI_leI (by omega) (by omega)] at c
        omega
      · have e : nI 480 + nI 32 * nI s + nI i = nI (480 + 32 * s + i) := by rw [fr_mul, nI_add, nI_add]
        (repeat (first | refine pm_W.ts rfl rfl ?_ | refine pm_W.tl rfl rfl ?_ | refine pm_W.get rfl rfl t1 rfl ?_))
        rw [nI_add]
        refine mr_ld (i := 1) hB rfl rfl rfl rfl (show f + i < 1952 by omega) ?_
        rw [b4 (f + i) (by omega)]
        show pm_W xs 0 mM_keep _ _ [.int ((A 1).getD (f + i) 0), .int (nI 480 + nI 32 * nI s + nI i), .ref (o + 1)] g Q
        rw [e]
        refine mr_st (i := 1) hB rfl rfl rfl rfl (show 480 + 32 * s + i < 1952 by omega) (fun g2 r2 a2 => ?_)
        (repeat (first | refine pm_W.ts rfl rfl ?_ | refine pm_W.tl rfl rfl ?_))
        refine pm_W.goto rfl ?_
        rw [fr_inc]
        refine ih (i + 1) g2 _ (by omega) r2 ?_ ?_ (fun t h1 h2 h3 => ?_) (fun j hj => ?_) (fun t ht => ?_) (hag.tr a2)
        · rw [fr_up_n (by omega)]; exact b1
        · rw [fr_up_n (by omega)]; exact b2
        · rw [fr_up_n h1]; exact b3 t h1 h2 h3
        · rw [fr_up_s, fr_gn (by omega)]; exact b4 j (by omega)
        · rw [fr_up_s]
          by_cases c : t = i
          · subst c
            rw [fr_gs (by omega)]
          · rw [fr_gn (by omega)]
            exact b5 t (by omega)
  unfold pm_X
  (repeat (first | refine pm_W.ts rfl rfl ?_ | refine pm_W.tl rfl rfl ?_ | refine pm_W.get rfl rfl h1 rfl ?_))
  refine mr_st (i := 13) hb rfl rfl rfl rfl (show s < 46 from hs) (fun g1 r1 a1 => ?_)
  have h2 := r1.1
  (repeat (first | refine pm_W.ts rfl rfl ?_ | refine pm_W.tl rfl rfl ?_ | refine pm_W.get rfl rfl h2 rfl ?_))
  refine mr_st (i := 14) r1 rfl rfl rfl rfl (show s < 46 from hs) (fun g2 r2 a2 => ?_)
  (iterate 2 (first | refine pm_W.ts rfl rfl ?_ | refine pm_W.tl rfl rfl ?_))
  refine loop n 0 g2 _ (by omega) r2 rfl rfl (fun i h1 h2 h3 => ?_) (fun j _ => rfl) (fun t ht => by omega) (a1.tr a2)
  rw [fr_up_n h3, fr_up_n h2]
end MKEEP
