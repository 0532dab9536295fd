def lw_s (A : Nat → List Int32) (I : Nat → Int32) (z : cz_N) (im : Nat → dp_P) (st ca : dp_K) (sd : Nat → List Int32 × dp_P) (ws ta : List Nat) (T : te_T) : Prop :=
  mt A 0 T ∧ mi A im ∧ mk A (40 * 0) st ∧ I 5 = nI st.length ∧ mk A (40 * 1) ca ∧ I 6 = nI ca.length ∧ mse A sd ∧ mo A I ws ∧ mta I ta ∧ mI I z
def lw_v (z : cz_N) (im : Nat → dp_P) (st ca : dp_K) (sd : Nat → List Int32 × dp_P) (ws : List Nat) (T : te_T) (S : tr_S) : Prop :=
  cz_ok z ∧ tV T ∧ tt S T ∧ (∀ i, i < 4 → pl_V (im i) 117) ∧ kp_by st ∧ kp_by ca ∧ sd_V sd ∧ rd_by ws
def lw_h (h : pm_H) (z : cz_N) (c : Nat) : Prop := ∃ (im : Nat → dp_P) (st ca : dp_K) (sd : Nat → List Int32 × dp_P) (ws ta : List Nat) (f : Bool) (S : tr_S) (T : te_T) (A : Nat → List Int32) (I : Nat → Int32),
  dp_R h 0 z im st ca sd ws ta f S ∧ mr_R h 185 A I ∧ lw_s A I z im st ca sd ws ta T ∧ lw_v z im st ca sd ws T S ∧ h.1.length ≤ 200 + c ∧ h.2 ≤ 6000 + 15 * c
section REL
variable {h : pm_H} {A B : Nat → List Int32} {I : Nat → Int32} {z : cz_N} {im : Nat → dp_P} {st ca : dp_K} {sd : Nat → List Int32 × dp_P} {ws ta : List Nat} {f : Bool} {S : tr_S} {T : te_T}
theorem lw_b (hb : dp_R h 0 z im st ca sd ws ta f S) : st.length ≤ 40 ∧ ca.length ≤ 6 ∧ ws.length ≤ 120 ∧ ta.length = 4 ∧ tr_ok S := by
  obtain ⟨c1, c2, c3, c4, c5, c6, c7, c8, c9, c10, c11, c12, c13, c14⟩ := hb
  obtain ⟨ids, rows, -, -, -, -, -, q5, -⟩ := c5
  obtain ⟨ids, rows, -, -, -, -, -, q6, -⟩ := c6
  obtain ⟨ys, -, -, -, -, q10, -⟩ := c10
  rw [List.length_map] at q10
  exact ⟨q5, q6, q10, c12, c13.2.2.2.2.2.2⟩
theorem lw_by (hV : tV T) (htt : tt S T) : ∀ s, s < 11 → tr_K S s = 1 → bt_ok (tr_B S s) := by
  intro s hs hk
  rcases Nat.eq_zero_or_pos s with c | c
  · subst c
    have := htt.1.1
    omega
  · obtain ⟨e, rfl⟩ : ∃ e, s = e + 1 := ⟨s - 1, by omega⟩
    have q := htt.2 e (by omega)
    have h0 : tP T e ≠ 0 := fun z => by
      have := q.1.mp z
      omega
    rw [(q.2 h0).2.2.1]
    exact (hV.1 e (by omega) h0).2.2.2.1
theorem lw_out (hV : tV T) : (em_out T).length ≤ 117 := by
  have key : ∀ (f D w l t : Nat) (os : List Int32), em_J T f D w l os t → (em_run T f (some D, w, os)).2.2.length ≤ 117 := by
    intro f
    induction f with
    | zero => intro D w l t os j; have := j.1; omega
    | succ f ih =>
      intro D w l t os j
      cases hb : em_best T D w with
      | none =>
        by_cases cD : D = 0
        · subst cD
          obtain ⟨a, b⟩ := em_J_end j hb
          rw [j.2.1, ← a]
          exact b
        · have j2 := em_J_close hV j hb cD
          have := ih _ _ _ _ _ j2
          rw [j2.2.1] at this
          rw [j.2.1]
          exact this
      | some s =>
        obtain ⟨c, -, cs, -⟩ := em_best_some hb
        subst cs
        obtain ⟨c1, c2, c3, c4, c5, c6, c7⟩ := em_J_beg hV j hb
        by_cases hk : tK T c = 1
        · have j2 := c6 hk
          have := ih _ _ _ _ _ j2
          rw [j2.2.1] at this
          rw [j.2.1]
          exact this
        · have j2 := c7 hk
          have := ih _ _ _ _ _ j2
          rw [j2.2.1] at this
          rw [j.2.1]
          exact this
  exact key 22 0 0 0 0 [] (em_J_start hV)
theorem mse_rows (hm : mse A sd) (e1 : ∀ t, 240 ≤ t → t < 480 → (B 1).getD t 0 = (A 1).getD t 0) (e2 : B 2 = A 2) (e7 : B 7 = A 7) (e8 : B 8 = A 8) (e9 : B 9 = A 9) (e10 : B 10 = A 10) : mse B sd := by
  intro s hs
  obtain ⟨q1, q2, q3, q4⟩ := hm s hs
  refine ⟨by rw [e2]; exact q1, q2, fun t ht => ?_, ?_⟩
  · rw [e1 _ (by omega) (by omega)]
    exact q3 t ht
  · unfold ml mlp at q4 ⊢
    rw [e7, e8, e9, e10]
    exact q4
theorem mo_of {J : Nat → Int32} (hm : mo A I ws) (e1 : ∀ t, 120 ≤ t → t < 240 → (B 1).getD t 0 = (A 1).getD t 0) (eJ : J 1 = I 1) : mo B J ws := by
  obtain ⟨q1, q2, q3⟩ := hm
  refine ⟨by rw [eJ]; exact q1, q2, fun t ht => ?_⟩
  have ht2 := ht
  rw [List.length_map] at ht2
  rw [e1 _ (by omega) (by omega)]
  exact q3 t ht
theorem mk_of {b : Nat} {L : dp_K} (hm : mk A b L) (e13 : ∀ t, b ≤ t → t < b + L.length → (B 13).getD t 0 = (A 13).getD t 0) (e14 : ∀ t, b ≤ t → t < b + L.length → (B 14).getD t 0 = (A 14).getD t 0) (e1 : ∀ t, 480 + 32 * b ≤ t → t < 480 + 32 * (b + L.length) → (B 1).getD t 0 = (A 1).getD t 0) : mk B b L := by
  intro j hj
  obtain ⟨q1, q2, q3, q4⟩ := hm j hj
  rw [e13 _ (by omega) (by omega), e14 _ (by omega) (by omega)]
  refine ⟨q1, q2, q3, fun t ht => ?_⟩
  rw [e1 _ (by omega) (by omega)]
  exact q4 t ht
theorem mta_of {J : Nat → Int32} (hm : mta I ta) (e : ∀ j, 7 ≤ j → j < 11 → J j = I j) : mta J ta := by
  intro i hi
  rw [e _ (by omega) (by omega)]
  exact hm i hi
theorem mI_of {J : Nat → Int32} (hm : mI I z) (e : ∀ j, 2 ≤ j → j < 5 → J j = I j) : mI J z := by
  refine ⟨by rw [e 2 (by omega) (by omega)]; exact hm.1, by rw [e 3 (by omega) (by omega)]; exact hm.2.1, by rw [e 4 (by omega) (by omega)]; exact hm.2.2⟩
theorem lw_tree {T' : te_T} (hs : lw_s A I z im st ca sd ws ta T) (hm : mt B 0 T') (hr : ∀ i, i < 3 ∨ 6 < i → B i = A i) : lw_s B I z im st ca sd ws ta T' := by
  obtain ⟨s1, s2, s3, s4, s5, s6, s7, s8, s9, s10⟩ := hs
  have r1 := hr 1 (by omega)
  refine ⟨hm, mi_rows s2 (hr 7 (by omega)) (hr 8 (by omega)) (hr 9 (by omega)) (hr 10 (by omega)) (hr 11 (by omega)), mk_same s3 (hr 13 (by omega)) (hr 14 (by omega)) (fun j _ => by rw [r1]), s4, mk_same s5 (hr 13 (by omega)) (hr 14 (by omega)) (fun j _ => by rw [r1]), s6, mse_rows s7 (fun t _ _ => by rw [r1]) (hr 2 (by omega)) (hr 7 (by omega)) (hr 8 (by omega)) (hr 9 (by omega)) (hr 10 (by omega)), mo_rows s8 r1, s9, s10⟩
theorem lw_str {y : Int32} (hs : lw_s A I z im st ca sd ws ta T) (hr : ∀ i, i ≠ 1 → B i = A i) (hq : ∀ j, 120 ≤ j → (B 1).getD j 0 = (A 1).getD j 0) : lw_s B (fr_up I 0 y) z im st ca sd ws ta T := by
  obtain ⟨s1, s2, s3, s4, s5, s6, s7, s8, s9, s10⟩ := hs
  refine ⟨mt_rows s1 (hr 3 (by omega)) (hr 4 (by omega)) (hr 5 (by omega)) (hr 6 (by omega)), mi_rows s2 (hr 7 (by omega)) (hr 8 (by omega)) (hr 9 (by omega)) (hr 10 (by omega)) (hr 11 (by omega)), mk_same s3 (hr 13 (by omega)) (hr 14 (by omega)) (fun j hj => hq j (by omega)), by rw [fr_up_n (by omega)]; exact s4, mk_same s5 (hr 13 (by omega)) (hr 14 (by omega)) (fun j hj => hq j (by omega)), by rw [fr_up_n (by omega)]; exact s6, mse_rows s7 (fun t ht _ => hq t (by omega)) (hr 2 (by omega)) (hr 7 (by omega)) (hr 8 (by omega)) (hr 9 (by omega)) (hr 10 (by omega)), mo_of s8 (fun t ht _ => hq t ht) (fr_up_n (by omega)), mta_of s9 (fun j _ _ => fr_up_n (by omega)), mI_0 s10⟩
theorem lw_kp0 {L : dp_K} (hs : lw_s A I z im st ca sd ws ta T) (l6 : ca.length ≤ 6) (hL : mk B (40 * 0) L) (hq : mq_ag 0 A B) : lw_s B (fr_up I 5 (nI L.length)) z im L ca sd ws ta T := by
  obtain ⟨s1, s2, s3, s4, s5, s6, s7, s8, s9, s10⟩ := hs
  have hr : ∀ i, i ≠ 1 → i ≠ 13 → i ≠ 14 → B i = A i := hq.1
  refine ⟨mt_rows s1 (hr 3 (by omega) (by omega) (by omega)) (hr 4 (by omega) (by omega) (by omega)) (hr 5 (by omega) (by omega) (by omega)) (hr 6 (by omega) (by omega) (by omega)), mi_mq s2 hq, hL, fr_up_s, mk_of s5 (fun t h1 _ => hq.2.1 13 t (Or.inl rfl) (by omega)) (fun t h1 _ => hq.2.1 14 t (Or.inr rfl) (by omega)) (fun t h1 _ => hq.2.2 t (by omega)), by rw [fr_up_n (by omega)]; exact s6, mse_rows s7 (fun t _ h2 => hq.2.2 t (by omega)) (hr 2 (by omega) (by omega) (by omega)) (hr 7 (by omega) (by omega) (by omega)) (hr 8 (by omega) (by omega) (by omega)) (hr 9 (by omega) (by omega) (by omega)) (hr 10 (by omega) (by omega) (by omega)), mo_of s8 (fun t _ h2 => hq.2.2 t (by omega)) (fr_up_n (by omega)), mta_of s9 (fun j _ _ => fr_up_n (by omega)), mI_of s10 (fun j _ _ => fr_up_n (by omega))⟩
theorem lw_kp1 {L : dp_K} (hs : lw_s A I z im st ca sd ws ta T) (l5 : st.length ≤ 40) (hL : mk B (40 * 1) L) (hq : mq_ag 1 A B) : lw_s B (fr_up I 6 (nI L.length)) z im st L sd ws ta T := by
  obtain ⟨s1, s2, s3, s4, s5, s6, s7, s8, s9, s10⟩ := hs
  have hr : ∀ i, i ≠ 1 → i ≠ 13 → i ≠ 14 → B i = A i := hq.1
  refine ⟨mt_rows s1 (hr 3 (by omega) (by omega) (by omega)) (hr 4 (by omega) (by omega) (by omega)) (hr 5 (by omega) (by omega) (by omega)) (hr 6 (by omega) (by omega) (by omega)), mi_mq s2 hq, mk_q0 s3 l5 hq, by rw [fr_up_n (by omega)]; exact s4, hL, fr_up_s, mse_rows s7 (fun t _ h2 => hq.2.2 t (by omega)) (hr 2 (by omega) (by omega) (by omega)) (hr 7 (by omega) (by omega) (by omega)) (hr 8 (by omega) (by omega) (by omega)) (hr 9 (by omega) (by omega) (by omega)) (hr 10 (by omega) (by omega) (by omega)), mo_of s8 (fun t _ h2 => hq.2.2 t (by omega)) (fr_up_n (by omega)), mta_of s9 (fun j _ _ => fr_up_n (by omega)), mI_of s10 (fun j _ _ => fr_up_n (by omega))⟩
theorem kp_by_er {L : dp_K} {p : Nat} (h : kp_by L) : kp_by (L.eraseIdx p) := by
  rw [kp_by_mem] at h ⊢
  exact fun q hq => h q (List.mem_of_mem_eraseIdx hq)
theorem cl_by : ∀ (n : Nat) (L : dp_K) (g : Nat), kp_by L → kp_by (cl_go im n L g).1 := by
  intro n
  induction n with
  | zero => intro L g h; exact h
  | succ n ih =>
    intro L g h
    rw [cl_go]
    by_cases c : dp_inb im (kp_i L n) = true
    · rw [if_pos c]; exact ih L g h
    · rw [if_neg c]; exact ih _ _ (kp_by_er h)
theorem bt_ok_set {bs : List Int32} {i j : Nat} (h : bt_ok bs) (hj : j < 256) : bt_ok (bs.set i (nI j)) := by
  intro x hx
  rcases List.mem_or_eq_of_mem_set hx with q | q
  · exact h x q
  · rw [q]; exact fr_255 j hj
theorem dm_by {L L' : dp_K} {w a v : Int32} (h : kp_by L) (hd : dm_R L w a v L') : kp_by L' := by
  obtain ⟨p, h1, h2, h3, q | q⟩ := hd
  · rw [q.2]; exact kp_by_er h
  · obtain ⟨-, i, j, i1, i2, j1, j2, e⟩ := q
    rw [e, kp_by_mem]
    intro x hx
    rcases List.mem_or_eq_of_mem_set hx with q | q
    · exact kp_by_mem.mp h x q
    · rw [q]
      exact bt_ok_set (h p h1) j1
theorem ms_by {P : dp_P} {os : List Int32} (h : kp_by st) (ho : bt_ok os) : ∀ k, kp_by (ms_go P os st k) := by
  intro k
  induction k with
  | zero => exact h
  | succ k ih =>
    rw [ms_go]
    by_cases c : ex_kp (ms_go P os st k) (pl_i P k) = none
    · rw [if_pos c, kp_by_mem]
      intro x hx
      rcases List.mem_append.mp hx with q | q
      · exact kp_by_mem.mp ih x q
      · rw [List.mem_singleton.mp q]
        exact bt_ok_sub ho
    · rw [if_neg c]; exact ih
theorem pl_V_le {P : dp_P} {n m : Nat} (h : pl_V P n) (hn : n ≤ m) : pl_V P m := fun i hi => ⟨(h i hi).1, (h i hi).2.1, Nat.le_trans (h i hi).2.2 hn⟩
theorem ex_go_by {ps : dp_P} (hv : pl_V ps 117) (hst : kp_by st) (hsd : sd_V sd) : ∀ (r k : Nat) (ca : dp_K) (ws ta : List Nat), k + r = ps.length → ws.length = pl_s ps k → rd_by ws → kp_by ca → kp_by (ex_go ps st sd r k ca ws ta).2.1 ∧ rd_by (ex_go ps st sd r k ca ws ta).2.2.1 := by
  intro r
  induction r with
  | zero => intro k ca ws ta _ _ h1 h2; exact ⟨h2, h1⟩
  | succ r ih =>
    intro k ca ws ta hk hw h1 h2
    rw [ex_go]
    cases he : ex_one ps st sd ca ws ta k with
    | mk q ta' =>
      cases q with
      | none => exact ⟨h2, fun x hx => by cases hx⟩
      | some q =>
        obtain ⟨ca', ws'⟩ := q
        obtain ⟨a1, a2, a3⟩ := ex_one_inv (by omega) hv hw h1 hst h2 hsd he
        exact ih (k + 1) ca' ws' ta' (by omega) a1 a2 a3
end REL
