theorem bt_ok_app {a b : List Int32} (ha : bt_ok a) (hb : bt_ok b) : bt_ok (a ++ b) := by
  intro x hx
  rcases List.mem_append.mp hx with q | q
  · exact ha x q
  · exact hb x q
theorem bt_ok_nil : bt_ok [] := fun x hx => by cases hx
theorem bt_ok_cons {n : Nat} {l : List Int32} (hn : n < 256) (hl : bt_ok l) : bt_ok (nI n :: l) := by
  intro x hx
  rcases List.mem_cons.mp hx with q | q
  · rw [q]; exact fr_255 n hn
  · exact hl x q
section MSIZE0
variable {T : te_T}
theorem em_step_ok (hV : tV T) {D w : Nat} {os : List Int32} (h : bt_ok os) : bt_ok (em_step T D w os).2.2 := by
  unfold em_step
  cases hb : em_best T D w with
  | none =>
    show bt_ok (os ++ [nI 9, nI (tr_cnt (em_c T D) 10)])
    have := tr_cnt_le (f := em_c T D) 10
    exact bt_ok_app h (bt_ok_cons (by omega) (bt_ok_cons (by omega) bt_ok_nil))
  | some s =>
    obtain ⟨c, a1, a2, a3, a4, a5, a6⟩ := em_best_some hb
    subst a2
    obtain ⟨v1, v2, v3, v4, v5⟩ := hV.1 c a1 a3
    have hlast := (pa_split v1 a3).2.2.2.2
    show bt_ok (if tK T (c + 1 - 1) = 1 then (some D, pa_last (tP T (c + 1 - 1)), os ++ em_file T (c + 1 - 1)) else (some (tP T (c + 1 - 1)), 0, os ++ [2, nI (pa_last (tP T (c + 1 - 1)))]) : ws_Q).2.2
    rw [show c + 1 - 1 = c by omega]
    by_cases hk : tK T c = 1
    · rw [if_pos hk]
      show bt_ok (os ++ ([nI 1, nI (pa_last (tP T c)), nI (tB T c).length] ++ tB T c))
      exact bt_ok_app h (bt_ok_app (bt_ok_cons (by omega) (bt_ok_cons (by omega) (bt_ok_cons (by omega) bt_ok_nil))) v4)
    · rw [if_neg hk]
      show bt_ok (os ++ [nI 2, nI (pa_last (tP T c))])
      exact bt_ok_app h (bt_ok_cons (by omega) (bt_ok_cons (by omega) bt_ok_nil))
theorem em_run_ok (hV : tV T) : ∀ (f : Nat) (q : ws_Q), bt_ok q.2.2 → bt_ok (em_run T f q).2.2 := by
  intro f
  induction f with
  | zero => intro q h; exact h
  | succ f ih =>
    intro q h
    obtain ⟨d, w, os⟩ := q
    cases d with
    | none => exact h
    | some d => exact ih _ (em_step_ok hV h)
theorem em_out_ok (hV : tV T) : bt_ok (em_out T) := em_run_ok hV 22 _ bt_ok_nil
theorem em_step_pre {D w : Nat} {os : List Int32} : ∃ r : List Int32, 2 ≤ r.length ∧ (em_step T D w os).2.2 = os ++ r := by
  unfold em_step
  cases hb : em_best T D w with
  | none => exact ⟨_, Nat.le_refl _, rfl⟩
  | some s =>
    show ∃ r : List Int32, 2 ≤ r.length ∧ (if tK T (s - 1) = 1 then (some D, pa_last (tP T (s - 1)), os ++ em_file T (s - 1)) else (some (tP T (s - 1)), 0, os ++ [2, nI (pa_last (tP T (s - 1)))]) : ws_Q).2.2 = os ++ r
    by_cases hk : tK T (s - 1) = 1
    · rw [if_pos hk]
      refine ⟨em_file T (s - 1), ?_, rfl⟩
      unfold em_file
      rw [List.length_append]
      show 2 ≤ 3 + _
      omega
    · rw [if_neg hk]
      exact ⟨_, Nat.le_refl _, rfl⟩
theorem em_run_pre : ∀ (f : Nat) (q : ws_Q), ∃ r : List Int32, (em_run T f q).2.2 = q.2.2 ++ r := by
  intro f
  induction f with
  | zero => intro q; exact ⟨[], (List.append_nil _).symm⟩
  | succ f ih =>
    intro q
    obtain ⟨d, w, os⟩ := q
    cases d with
    | none => exact ⟨[], (List.append_nil _).symm⟩
    | some d =>
      obtain ⟨r1, -, e1⟩ := em_step_pre (T := T) (D := d) (w := w) (os := os)
      obtain ⟨r2, e2⟩ := ih (em_step T d w os)
      refine ⟨r1 ++ r2, ?_⟩
      show (em_run T f (em_step T d w os)).2.2 = os ++ (r1 ++ r2)
      rw [e2, e1, List.append_assoc]
theorem em_out_len : 2 ≤ (em_out T).length := by
  obtain ⟨r1, l1, e1⟩ := em_step_pre (T := T) (D := 0) (w := 0) (os := [])
  obtain ⟨r2, e2⟩ := em_run_pre (T := T) 21 (em_step T 0 0 [])
  have : em_out T = r1 ++ r2 := by
    show (em_run T 21 (em_step T 0 0 [])).2.2 = _
    rw [e2, e1, List.nil_append]
  rw [this, List.length_append]
  omega
end MSIZE0
theorem dp_cut_ne {z : cz_N} {os : List Int32} (h : 1 ≤ os.length) : dp_cut z os ≠ [] := by
  unfold dp_cut
  obtain ⟨e, he⟩ : ∃ e, os.length = e + 1 := ⟨os.length - 1, by omega⟩
  rw [he]
  have c : cz_end z os (cz_cut z os e).2 (e + 1) = true := decide_eq_true (Or.inl he.symm)
  rw [cz_cut, if_pos c]
  intro z
  have := congrArg List.length z
  rw [List.length_append] at this
  exact absurd this (by show _ + 1 ≠ 0; omega)
def mz (T : te_T) (im : Nat → dp_P) (st ca : dp_K) (j : Nat) : Nat := match j with
  | 0 => tr_cnt (fun s => decide (tP T (s - 1) ≠ 0)) 10
  | 1 => te_fb T
  | 2 => (em_out T).length
  | 3 => dp_cnt im 4
  | 4 => st.length
  | 5 => kp_sum st st.length
  | 6 => ca.length
  | _ => kp_sum ca ca.length
theorem mz_eq {T : te_T} {S : tr_S} {z : cz_N} {im : Nat → dp_P} {st ca : dp_K} (hV : tV T) (htt : tt S T) (hok : tr_ok S) (j : Nat) : mz T im st ca j = dp_size z im st ca S j := by
  have e0 : tr_cnt (fun s => decide (tP T (s - 1) ≠ 0)) 10 = tr_cnt (tr_u S) 10 := by
    apply tr_cnt_eq
    intro s h1 h2
    obtain ⟨e, rfl⟩ : ∃ e, s = e + 1 := ⟨s - 1, by omega⟩
    rw [show e + 1 - 1 = e by omega]
    unfold tr_u
    exact decide_eq_decide.mpr (not_congr (htt.2 e (by omega)).1)
  match j with
  | 0 => exact e0
  | 1 => exact (tt_fb htt).symm
  | 2 => show (em_out T).length = (ws_out S).length; rw [em_ws_out hV htt hok]
  | 3 => rfl
  | 4 => rfl
  | 5 => rfl
  | 6 => rfl
  | n + 7 => rfl
def mz_s (c : Nat → Bool) (N : Nat → Nat) : Nat → Nat
  | 0 => 0
  | k + 1 => mz_s c N k + (if c k = true then N k else 0)
theorem mz_s_kp {L : dp_K} {b : Nat} : ∀ k, mz_s (fun k => decide (b ≤ k ∧ k < b + L.length)) (fun k => (kp_b L (k - b)).length) k = kp_sum L (min (k - b) L.length) := by
  intro k
  induction k with
  | zero => rw [show min (0 - b) L.length = 0 by omega]; rfl
  | succ k ih =>
    rw [mz_s, ih]
    by_cases c : b ≤ k ∧ k < b + L.length
    · rw [if_pos (decide_eq_true c), show min (k + 1 - b) L.length = (k - b) + 1 by omega, show min (k - b) L.length = k - b by omega]
      rfl
    · rw [if_neg (fun z => c (of_decide_eq_true z)), Nat.add_zero]
      congr 1
      omega
theorem mz_s_0 {N : Nat → Nat} : ∀ k, mz_s (fun _ => false) N k = 0 := by
  intro k
  induction k with
  | zero => rfl
  | succ k ih => rw [mz_s, ih]; rfl
section MSIZE
variable {xs : List Int32} {h : pm_H} {o : Nat} {A : Nat → List Int32} {I : Nat → Int32} {T : te_T} {im : Nat → dp_P} {st ca : dp_K} {Q : Option Value → pm_H → Prop}
theorem ct_M_size {x : Int32} (hb : mr_R h o A I) (hm : mt A 0 T) (hV : tV T) (hi : mi A im) (hs : mk A (40 * 0) st) (h5 : I 5 = nI st.length) (l5 : st.length ≤ 40) (hc : mk A (40 * 1) ca) (h6 : I 6 = nI ca.length) (l6 : ca.length ≤ 6)
    (k1 : ∀ j : Nat, j < 8 → x = nI j → ∀ (g : pm_H) (B : Nat → List Int32) (y : Int32), mr_R g o B (fr_up I 0 y) → (∀ i, i ≠ 1 → B i = A i) → (∀ j, 120 ≤ j → (B 1).getD j 0 = (A 1).getD j 0) → fr_ag o (o + 15) h g → Q (some (.int (nI (mz T im st ca j)))) g)
    (k0 : (∀ j : Nat, j < 8 → x ≠ nI j) → Q (some (.int (-1))) h) : pm_X xs 4 mM_size [.ref o, .int x] h Q := by
  have h1 := hb.1
  have same : ∀ j : Nat, j < 8 → x = nI j → Q (some (.int (nI (mz T im st ca j)))) h := fun j hj hx => k1 j hj hx h A (I 0) (by rw [mr_up_id]; exact hb) (fun _ _ => rfl) (fun _ _ => rfl) fr_ag.rf
  have fin : ∀ (n : Nat) (v3 v4 : Value), (x = nI 3 → n = dp_cnt im 4) → (x = nI 5 → n = kp_sum st st.length) → (x = nI 7 → n = kp_sum ca ca.length) → x ≠ nI 0 → x ≠ nI 1 → x ≠ nI 2 → pm_W xs 4 mM_size 154 [.ref o, .int x, .int (nI n), v3, v4] [] h Q := by
    intro n v3 v4 n3 n5 n7 c0 c1 c2
    (repeat (first | refine pm_W.ts rfl rfl ?_ | refine pm_W.tl rfl rfl ?_))
    refine pm_W.icmp rfl (fun c4 => ?_) (fun c4 => ?_)
    · have c4 : ¬ x = nI 4 := c4
      (repeat (first | refine pm_W.ts rfl rfl ?_ | refine pm_W.tl rfl rfl ?_))
      refine pm_W.icmp rfl (fun c6 => ?_) (fun c6 => ?_)
      · have c6 : ¬ x = nI 6 := c6
        (repeat (first | refine pm_W.ts rfl rfl ?_ | refine pm_W.tl rfl rfl ?_))
        refine pm_W.ifz rfl (fun d => ?_) (fun d => ?_)
        · (iterate 1 (first | refine pm_W.ts rfl rfl ?_ | refine pm_W.tl rfl rfl ?_))
          refine pm_W.goto rfl ?_
          exact pm_W.iret rfl rfl (k0 (fr_no (n := 8) (by omega) (Or.inl d)))
        · have d : ¬ x < 0 := d
          (repeat (first | refine pm_W.ts rfl rfl ?_ | refine pm_W.tl rfl rfl ?_))
          refine pm_W.icmp rfl (fun d2 => ?_) (fun d2 => ?_)
          · have d2 : x ≤ nI 7 := d2
            obtain ⟨j, hj, hx⟩ := fr_4 d (n := 8) (by omega) (fun z => by
              have a := fr_le.mp z
              have b := fr_le.mp d2
              rw [fr_32 8 (by omega)] at a
              rw [fr_32 7 (by omega)] at b
              omega)
            (iterate 1 (first | refine pm_W.ts rfl rfl ?_ | refine pm_W.tl rfl rfl ?_))
            refine pm_W.iret rfl rfl ?_
            have : n = mz T im st ca j := by
              match j, hj, hx with
              | 0, _, hx => exact absurd hx c0
              | 1, _, hx => exact absurd hx c1
              | 2, _, hx => exact absurd hx c2
              | 3, _, hx => exact n3 hx
              | 4, _, hx => exact absurd hx c4
              | 5, _, hx => exact n5 hx
              | 6, _, hx => exact absurd hx c6
              | 7, _, hx => exact n7 hx
              | m + 8, hj, _ => omega
            rw [this]
            exact same j hj hx
          · have d2 : ¬ x ≤ nI 7 := d2
            (iterate 1 (first | refine pm_W.ts rfl rfl ?_ | refine pm_W.tl rfl rfl ?_))
            refine pm_W.goto rfl ?_
            refine pm_W.iret rfl rfl (k0 (fr_no (n := 8) (by omega) (Or.inr ?_)))
            have a := fr_lt.mp (fr_nle d2)
            rw [fr_32 7 (by omega)] at a
            apply fr_le.mpr
            rw [fr_32 8 (by omega)]
            omega
      · have c6 : ¬ ¬ x = nI 6 := c6
        (repeat (first | refine pm_W.ts rfl rfl ?_ | refine pm_W.tl rfl rfl ?_ | refine pm_W.get rfl rfl h1 rfl ?_))
        refine pm_W.goto rfl ?_
        rw [h6]
        exact pm_W.iret rfl rfl (same 6 (by omega) (Decidable.not_not.mp c6))
    · have c4 : ¬ ¬ x = nI 4 := c4
      (repeat (first | refine pm_W.ts rfl rfl ?_ | refine pm_W.tl rfl rfl ?_ | refine pm_W.get rfl rfl h1 rfl ?_))
      refine pm_W.goto rfl ?_
      rw [h5]
      exact pm_W.iret rfl rfl (same 4 (by omega) (Decidable.not_not.mp c4))
  have made : ∀ (r i n : Nat) (v4 : Value), i + r = 4 → (x = nI 3 → n = dp_cnt im i) → (x = nI 5 → n = kp_sum st st.length) → (x = nI 7 → n = kp_sum ca ca.length) → x ≠ nI 0 → x ≠ nI 1 → x ≠ nI 2 → pm_W xs 4 mM_size 121 [.ref o, .int x, .int (nI n), .int (nI i), v4] [] h Q := by
    intro r
    induction r with
    | zero =>
      intro i n v4 hi4 n3 n5 n7 c0 c1 c2
      have e4 : i = 4 := by omega
      subst e4
      (repeat (first | refine pm_W.ts rfl rfl ?_ | refine pm_W.tl rfl rfl ?_))
      refine pm_W.icmp rfl (fun _ => fin n _ _ n3 n5 n7 c0 c1 c2) (fun z => ?_)
      have z : ¬ nI 4 ≤ nI 4 := z
      rw [nI_leI (by omega) (by omega)] at z
      omega
    | succ r ih =>
      intro i n v4 hi4 n3 n5 n7 c0 c1 c2
      obtain ⟨g1, -, -⟩ := hi i (by omega)
      (repeat (first | refine pm_W.ts rfl rfl ?_ | refine pm_W.tl rfl rfl ?_))
      refine pm_W.icmp rfl (fun z => ?_) (fun _ => ?_)
      · have z : nI 4 ≤ nI i := z
        rw [nI_leI (by omega) (by omega)] at z
        omega
      · (repeat (first | refine pm_W.ts rfl rfl ?_ | refine pm_W.tl rfl rfl ?_))
        refine pm_W.icmp rfl (fun c3 => ?_) (fun c3 => ?_)
        · have c3 : ¬ x = nI 3 := c3
          (repeat (first | refine pm_W.ts rfl rfl ?_ | refine pm_W.tl rfl rfl ?_))
          refine pm_W.goto rfl ?_
          rw [fr_inc]
          exact ih (i + 1) n v4 (by omega) (fun z => absurd z c3) n5 n7 c0 c1 c2
        · have c3 : ¬ ¬ x = nI 3 := c3
          have c3 := Decidable.not_not.mp c3
          have e3 := n3 c3
          (repeat (first | refine pm_W.ts rfl rfl ?_ | refine pm_W.tl rfl rfl ?_ | refine pm_W.get rfl rfl h1 rfl ?_))
          refine mr_ldz hb rfl (by omega) ?_
          rw [g1]
          refine pm_W.ifz rfl (fun d => ?_) (fun d => ?_)
          · have d := of_decide_eq_false (fr_b0 d)
            (repeat (first | refine pm_W.ts rfl rfl ?_ | refine pm_W.tl rfl rfl ?_))
            refine pm_W.goto rfl ?_
            rw [fr_inc]
            refine ih (i + 1) n v4 (by omega) (fun _ => ?_) n5 n7 c0 c1 c2
            rw [dp_cnt, if_pos (Decidable.not_not.mp d), Nat.add_zero]
            exact e3
          · have d := of_decide_eq_true (fr_b1 d)
            (repeat (first | refine pm_W.ts rfl rfl ?_ | refine pm_W.tl rfl rfl ?_))
            refine pm_W.goto rfl ?_
            (repeat (first | refine pm_W.ts rfl rfl ?_ | refine pm_W.tl rfl rfl ?_))
            refine pm_W.goto rfl ?_
            rw [fr_inc, fr_inc]
            refine ih (i + 1) (n + 1) v4 (by omega) (fun _ => ?_) (fun z => absurd (c3.symm.trans z) (by decide)) (fun z => absurd (c3.symm.trans z) (by decide)) c0 c1 c2
            rw [dp_cnt, if_neg d]
            omega
  have sums : ∀ (c : Nat → Bool) (N : Nat → Nat), (∀ k, k < 46 → c k = true → (A 14).getD k 0 = nI (N k)) → (∀ (k n : Nat) (v4 : Value), k < 46 → (∀ w : Int32, w = fr_b (c k) → pm_W xs 4 mM_size 93 [.ref o, .int x, .int (nI n), .int (nI k), v4] [.int w] h Q) → pm_W xs 4 mM_size 44 [.ref o, .int x, .int (nI n), .int (nI k), v4] [] h Q) → (∀ v4 : Value, pm_W xs 4 mM_size 121 [.ref o, .int x, .int (nI (mz_s c N 46)), .int (nI 0), v4] [] h Q) →
      ∀ (r k : Nat) (v4 : Value), k + r = 46 → pm_W xs 4 mM_size 38 [.ref o, .int x, .int (nI (mz_s c N k)), .int (nI k), v4] [] h Q := by
    intro c N hN hst hend r
    induction r with
    | zero =>
      intro k v4 hk
      have e46 : k = 46 := by omega
      subst e46
      (repeat (first | refine pm_W.ts rfl rfl ?_ | refine pm_W.tl rfl rfl ?_))
      refine pm_W.icmp rfl (fun _ => ?_) (fun z => ?_)
      · (iterate 2 (first | refine pm_W.ts rfl rfl ?_ | refine pm_W.tl rfl rfl ?_))
        exact hend v4
      · have z : ¬ nI 46 ≤ nI 46 := z
        rw [nI_leI (by omega) (by omega)] at z
        omega
    | succ r ih =>
      intro k v4 hk
      (repeat (first | refine pm_W.ts rfl rfl ?_ | refine pm_W.tl rfl rfl ?_))
      refine pm_W.icmp rfl (fun z => ?_) (fun _ => ?_)
      · have z : nI 46 ≤ nI k := z
        rw [nI_leI (by omega) (by omega)] at z
        omega
      · refine hst k _ v4 (by omega) (fun w hw => ?_)
        subst hw
        have nx := ih (k + 1)
        rw [mz_s] at nx
        (iterate 2 (first | refine pm_W.ts rfl rfl ?_ | refine pm_W.tl rfl rfl ?_))
        cases hck : c k with
        | false =>
          rw [hck, if_neg Bool.false_ne_true, Nat.add_zero] at nx
          refine pm_W.ifz rfl (fun _ => ?_) (fun z => absurd rfl z)
          (repeat (first | refine pm_W.ts rfl rfl ?_ | refine pm_W.tl rfl rfl ?_))
          refine pm_W.goto rfl ?_
          rw [fr_inc]
          exact nx _ (by omega)
        | true =>
          rw [hck, if_pos rfl] at nx
          refine pm_W.ifz rfl (fun z => absurd (show (1 : Int32) = 0 from z) (by decide)) (fun _ => ?_)
          (repeat (first | refine pm_W.ts rfl rfl ?_ | refine pm_W.tl rfl rfl ?_ | refine pm_W.get rfl rfl h1 rfl ?_))
          refine mr_ld (i := 14) (k := k) hb rfl rfl rfl rfl (show k < 46 by omega) ?_
          rw [hN k (by omega) hck]
          (repeat (first | refine pm_W.ts rfl rfl ?_ | refine pm_W.tl rfl rfl ?_))
          rw [nI_add]
          refine pm_W.goto rfl ?_
          (repeat (first | refine pm_W.ts rfl rfl ?_ | refine pm_W.tl rfl rfl ?_))
          refine pm_W.goto rfl ?_
          rw [fr_inc]
          exact nx _ (by omega)
  unfold pm_X
  (iterate 1 (first | refine pm_W.ts rfl rfl ?_ | refine pm_W.tl rfl rfl ?_))
  refine pm_W.ifz rfl (fun c0 => ?_) (fun c0 => ?_)
  · have c0 : ¬ x = nI 0 := c0
    (repeat (first | refine pm_W.ts rfl rfl ?_ | refine pm_W.tl rfl rfl ?_))
    refine pm_W.icmp rfl (fun c1 => ?_) (fun c1 => ?_)
    · have c1 : ¬ x = nI 1 := c1
      (repeat (first | refine pm_W.ts rfl rfl ?_ | refine pm_W.tl rfl rfl ?_))
      refine pm_W.icmp rfl (fun c2 => ?_) (fun c2 => ?_)
      · have c2 : ¬ x = nI 2 := c2
        by_cases c5 : x = nI 5
        · have n57 : x ≠ nI 7 := fun z => absurd (c5.symm.trans z) (by decide)
          have n53 : x ≠ nI 3 := fun z => absurd (c5.symm.trans z) (by decide)
          (iterate 4 (first | refine pm_W.ts rfl rfl ?_ | refine pm_W.tl rfl rfl ?_))
          refine sums (fun k => decide (0 ≤ k ∧ k < 0 + st.length)) (fun k => (kp_b st (k - 0)).length) (fun k hk hc2 => ?_) (fun k n v4 hk kk => ?_) (fun v4 => ?_) 46 0 _ (by omega)
          · have := of_decide_eq_true hc2
            have q := (hs k (by omega)).2.1
            rw [show 40 * 0 + k = k by omega] at q
            exact q
          · (repeat (first | refine pm_W.ts rfl rfl ?_ | refine pm_W.tl rfl rfl ?_))
            refine pm_W.icmp rfl (fun z => absurd c5 z) (fun _ => ?_)
            (repeat (first | refine pm_W.ts rfl rfl ?_ | refine pm_W.tl rfl rfl ?_ | refine pm_W.get rfl rfl h1 rfl ?_))
            rw [h5]
            refine pm_W.icmp rfl (fun z => ?_) (fun z => ?_)
            · have z : nI st.length ≤ nI k := z
              rw [nI_leI (by omega) (by omega)] at z
              (iterate 1 (first | refine pm_W.ts rfl rfl ?_ | refine pm_W.tl rfl rfl ?_))
              refine pm_W.goto rfl ?_
              exact kk _ (by rw [fr_bf (decide_eq_false (by omega))]; rfl)
            · have z : ¬ nI st.length ≤ nI k := z
              rw [nI_leI (by omega) (by omega)] at z
              (iterate 1 (first | refine pm_W.ts rfl rfl ?_ | refine pm_W.tl rfl rfl ?_))
              refine pm_W.goto rfl ?_
              exact kk _ (by rw [fr_bt (decide_eq_true (by omega))]; rfl)
          · refine made 4 0 _ v4 (by omega) (fun z => absurd z n53) (fun _ => ?_) (fun z => absurd z n57) c0 c1 c2
            rw [mz_s_kp, show min (46 - 0) st.length = st.length by omega]
        · by_cases c7 : x = nI 7
          · have n73 : x ≠ nI 3 := fun z => absurd (c7.symm.trans z) (by decide)
            (iterate 4 (first | refine pm_W.ts rfl rfl ?_ | refine pm_W.tl rfl rfl ?_))
            refine sums (fun k => decide (40 ≤ k ∧ k < 40 + ca.length)) (fun k => (kp_b ca (k - 40)).length) (fun k hk hc2 => ?_) (fun k n v4 hk kk => ?_) (fun v4 => ?_) 46 0 _ (by omega)
            · have := of_decide_eq_true hc2
              have q := (hc (k - 40) (by omega)).2.1
              rw [show 40 * 1 + (k - 40) = k by omega] at q
              exact q
            · (repeat (first | refine pm_W.ts rfl rfl ?_ | refine pm_W.tl rfl rfl ?_))
              refine pm_W.icmp rfl (fun _ => ?_) (fun z => absurd (Decidable.not_not.mp z) c5)
              (repeat (first | refine pm_W.ts rfl rfl ?_ | refine pm_W.tl rfl rfl ?_))
              refine pm_W.icmp rfl (fun z => absurd c7 z) (fun _ => ?_)
              (repeat (first | refine pm_W.ts rfl rfl ?_ | refine pm_W.tl rfl rfl ?_))
              refine pm_W.icmp rfl (fun z => ?_) (fun z => ?_)
              · have z : nI k < nI 40 := z
                rw [nI_ltI (by omega) (by omega)] at z
                (iterate 1 (first | refine pm_W.ts rfl rfl ?_ | refine pm_W.tl rfl rfl ?_))
                exact kk _ (by rw [fr_bf (decide_eq_false (by omega))]; rfl)
              · have z : ¬ nI k < nI 40 := z
                rw [nI_ltI (by omega) (by omega)] at z
                (repeat (first | refine pm_W.ts rfl rfl ?_ | refine pm_W.tl rfl rfl ?_ | refine pm_W.get rfl rfl h1 rfl ?_))
                rw [h6]
                refine pm_W.icmp rfl (fun y => ?_) (fun y => ?_)
                · have y : nI 40 + nI ca.length ≤ nI k := y
                  rw [nI_add, nI_leI (by omega) (by omega)] at y
                  (iterate 1 (first | refine pm_W.ts rfl rfl ?_ | refine pm_W.tl rfl rfl ?_))
                  exact kk _ (by rw [fr_bf (decide_eq_false (by omega))]; rfl)
                · have y : ¬ nI 40 + nI ca.length ≤ nI k := y
                  rw [nI_add, nI_leI (by omega) (by omega)] at y
                  (iterate 1 (first | refine pm_W.ts rfl rfl ?_ | refine pm_W.tl rfl rfl ?_))
                  refine pm_W.goto rfl ?_
                  exact kk _ (by rw [fr_bt (decide_eq_true (by omega))]; rfl)
            · refine made 4 0 _ v4 (by omega) (fun z => absurd z n73) (fun z => absurd z c5) (fun _ => ?_) c0 c1 c2
              rw [mz_s_kp, show min (46 - 40) ca.length = ca.length by omega]
          · (iterate 4 (first | refine pm_W.ts rfl rfl ?_ | refine pm_W.tl rfl rfl ?_))
            refine sums (fun _ => false) (fun _ => 0) (fun k hk hc2 => absurd hc2 Bool.false_ne_true) (fun k n v4 hk kk => ?_) (fun v4 => ?_) 46 0 _ (by omega)
            · (repeat (first | refine pm_W.ts rfl rfl ?_ | refine pm_W.tl rfl rfl ?_))
              refine pm_W.icmp rfl (fun _ => ?_) (fun z => absurd (Decidable.not_not.mp z) c5)
              (repeat (first | refine pm_W.ts rfl rfl ?_ | refine pm_W.tl rfl rfl ?_))
              refine pm_W.icmp rfl (fun _ => ?_) (fun z => absurd (Decidable.not_not.mp z) c7)
              (iterate 1 (first | refine pm_W.ts rfl rfl ?_ | refine pm_W.tl rfl rfl ?_))
              exact kk _ rfl
            · rw [mz_s_0]
              exact made 4 0 0 v4 (by omega) (fun _ => rfl) (fun z => absurd z c5) (fun z => absurd z c7) c0 c1 c2
      · have c2 : ¬ ¬ x = nI 2 := c2
        have c2 := Decidable.not_not.mp c2
        (repeat (first | refine pm_W.ts rfl rfl ?_ | refine pm_W.tl rfl rfl ?_))
        refine pm_W.callV (d' := 3) (as := [.int (nI 0)]) rfl rfl rfl rfl (fr_ble rfl) h1 (fr_ble rfl) (ct_M_emit hb hm hV (by omega) (fun g B hB hS hr hq hl a => ?_))
        have t1 := hB.1
        (repeat (first | refine pm_W.ts rfl rfl ?_ | refine pm_W.tl rfl rfl ?_ | refine pm_W.get rfl rfl t1 rfl ?_))
        exact pm_W.iret rfl rfl (k1 2 (by omega) c2 g B _ hB hr hq a)
    · have c1 : ¬ ¬ x = nI 1 := c1
      (repeat (first | refine pm_W.ts rfl rfl ?_ | refine pm_W.tl rfl rfl ?_))
      refine pm_W.callV (d' := 0) (as := []) rfl rfl rfl rfl (fr_ble rfl) h1 (fr_ble rfl) (ct_M_fileBytes hb hm hV ?_)
      exact pm_W.iret rfl rfl (same 1 (by omega) (Decidable.not_not.mp c1))
  · have c0 : ¬ ¬ x = nI 0 := c0
    (repeat (first | refine pm_W.ts rfl rfl ?_ | refine pm_W.tl rfl rfl ?_))
    refine pm_W.callV (d' := 0) (as := []) rfl rfl rfl rfl (fr_ble rfl) h1 (fr_ble rfl) (ct_M_entries hb hm hV ?_)
    exact pm_W.iret rfl rfl (same 0 (by omega) (Decidable.not_not.mp c0))
end MSIZE
