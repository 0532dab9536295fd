def dp_isnew (ps : dp_P) (st : dp_K) (k : Nat) : Bool := decide (ex_kp st (pl_i ps k) = none) && decide (fr_find (fun j => decide (pl_i ps j = pl_i ps k)) ps.length = some k)
def dp_new (ps : dp_P) (st : dp_K) : Nat → Nat
  | 0 => 0
  | k + 1 => dp_new ps st k + (if dp_isnew ps st k = true then 1 else 0)
theorem dp_new_le {ps : dp_P} {st : dp_K} : ∀ k, dp_new ps st k ≤ k := by
  intro k
  induction k with
  | zero => exact Nat.le_refl _
  | succ k ih =>
    show _ + _ ≤ _
    split <;> omega
def ms_go (ps : dp_P) (os : List Int32) (st : dp_K) : Nat → dp_K
  | 0 => st
  | k + 1 => if ex_kp (ms_go ps os st k) (pl_i ps k) = none then ms_go ps os st k ++ [(pl_i ps k, bt_sub os (pl_s ps k) (ex_n ps k))] else ms_go ps os st k
theorem ex_kp_some {L : dp_K} {w : Int32} : (∃ i, i < L.length ∧ kp_i L i = w) ↔ ex_kp L w ≠ none := by
  constructor
  · rintro ⟨i, hi, e⟩ hn
    have := fr_find_none hn i hi
    rw [decide_eq_true e] at this
    cases this
  · intro hn
    cases e : ex_kp L w with
    | none => exact absurd e hn
    | some i =>
      obtain ⟨h1, h2, -⟩ := fr_find_some e
      exact ⟨i, h1, of_decide_eq_true h2⟩
theorem kp_i_appL {L : dp_K} {q : Int32 × List Int32} {i : Nat} (hi : i < L.length) : kp_i (L ++ [q]) i = kp_i L i := by
  unfold kp_i
  rw [List.getD_eq_getElem?_getD, List.getElem?_append_left hi, List.getD_eq_getElem?_getD]
theorem ms_has {ps : dp_P} {os : List Int32} {st : dp_K} : ∀ (k : Nat) (w : Int32), (∃ i, i < (ms_go ps os st k).length ∧ kp_i (ms_go ps os st k) i = w) ↔ ((∃ i, i < st.length ∧ kp_i st i = w) ∨ ∃ j, j < k ∧ pl_i ps j = w) := by
  intro k
  induction k with
  | zero =>
    intro w
    constructor
    · intro h; exact Or.inl h
    · rintro (h | ⟨j, hj, -⟩)
      · exact h
      · omega
  | succ k ih =>
    intro w
    unfold ms_go
    split
    · rename_i hn
      constructor
      · rintro ⟨i, hi, e⟩
        rw [List.length_append, List.length_singleton] at hi
        by_cases hil : i < (ms_go ps os st k).length
        · rw [kp_i_appL hil] at e
          rcases (ih w).mp ⟨i, hil, e⟩ with q | ⟨j, hj, ej⟩
          · exact Or.inl q
          · exact Or.inr ⟨j, by omega, ej⟩
        · rw [show i = (ms_go ps os st k).length by omega, kp_i_app] at e
          exact Or.inr ⟨k, by omega, e⟩
      · intro h
        by_cases hk : pl_i ps k = w
        · exact ⟨(ms_go ps os st k).length, by simp, by rw [kp_i_app]; exact hk⟩
        · have : (∃ i, i < st.length ∧ kp_i st i = w) ∨ ∃ j, j < k ∧ pl_i ps j = w := by
            rcases h with q | ⟨j, hj, ej⟩
            · exact Or.inl q
            · refine Or.inr ⟨j, ?_, ej⟩
              by_cases e : j = k
              · subst e; exact absurd ej hk
              · omega
          obtain ⟨i, hi, e⟩ := (ih w).mpr this
          exact ⟨i, by rw [List.length_append]; omega, by rw [kp_i_appL hi]; exact e⟩
    · rename_i hn
      obtain ⟨i0, hi0, e0⟩ := ex_kp_some.mpr hn
      constructor
      · intro h
        rcases (ih w).mp h with q | ⟨j, hj, ej⟩
        · exact Or.inl q
        · exact Or.inr ⟨j, by omega, ej⟩
      · rintro (q | ⟨j, hj, ej⟩)
        · exact (ih w).mpr (Or.inl q)
        · by_cases e : j = k
          · subst e
            exact ⟨i0, hi0, e0.trans ej⟩
          · exact (ih w).mpr (Or.inr ⟨j, by omega, ej⟩)
theorem ms_new {ps : dp_P} {os : List Int32} {st : dp_K} {k : Nat} (hk : k < ps.length) : ex_kp (ms_go ps os st k) (pl_i ps k) = none ↔ dp_isnew ps st k = true := by
  have h1 := ms_has (ps := ps) (os := os) (st := st) k (pl_i ps k)
  unfold dp_isnew
  rw [Bool.and_eq_true, decide_eq_true_eq, decide_eq_true_eq]
  constructor
  · intro hn
    have hno : ¬ ((∃ i, i < st.length ∧ kp_i st i = pl_i ps k) ∨ ∃ j, j < k ∧ pl_i ps j = pl_i ps k) := fun q => ex_kp_some.mp (h1.mpr q) hn
    refine ⟨?_, fr_find_is hk (decide_eq_true rfl) (fun j hj => decide_eq_false (fun q => hno (Or.inr ⟨j, hj, q⟩)))⟩
    cases e : ex_kp st (pl_i ps k) with
    | none => rfl
    | some i => exact absurd (Or.inl (ex_kp_some.mpr (by rw [e]; exact fun q => by cases q))) hno
  · rintro ⟨g1, g2⟩
    obtain ⟨-, -, g3⟩ := fr_find_some g2
    cases e : ex_kp (ms_go ps os st k) (pl_i ps k) with
    | none => rfl
    | some i =>
      rcases h1.mp (ex_kp_some.mpr (by rw [e]; exact fun q => by cases q)) with q | ⟨j, hj, ej⟩
      · exact absurd g1 (ex_kp_some.mp q)
      · have := g3 j hj
        rw [decide_eq_true ej] at this
        cases this
theorem ms_len {ps : dp_P} {os : List Int32} {st : dp_K} : ∀ k, k ≤ ps.length → (ms_go ps os st k).length = st.length + dp_new ps st k := by
  intro k
  induction k with
  | zero => intro _; rfl
  | succ k ih =>
    intro hk
    have hm := ms_new (ps := ps) (os := os) (st := st) (k := k) (by omega)
    unfold ms_go
    show _ = st.length + (dp_new ps st k + _)
    by_cases c : ex_kp (ms_go ps os st k) (pl_i ps k) = none
    · rw [if_pos c, if_pos (hm.mp c), List.length_append, List.length_singleton, ih (by omega)]
      omega
    · rw [if_neg c, if_neg (fun q => c (hm.mpr q)), ih (by omega)]
      rfl
theorem dp_new_mono {ps : dp_P} {st : dp_K} : ∀ (d k : Nat), dp_new ps st k ≤ dp_new ps st (k + d) := by
  intro d
  induction d with
  | zero => intro k; exact Nat.le_refl _
  | succ d ih =>
    intro k
    have := ih k
    show _ ≤ dp_new ps st (k + d) + _
    omega
section MAKE
variable {xs : List Int32} {h : pm_H} {b : Nat} {z : cz_N} {im : Nat → dp_P} {st ca : dp_K} {sd : Nat → List Int32 × dp_P} {ws ta : List Nat} {f : Bool} {S : tr_S} {Q : Option Value → pm_H → Prop}
theorem ct_D_idsNewToStore {i : Nat} (hb : dp_R h b z im st ca sd ws ta f S) (hi : i < 4) (k : Q (some (.int (nI (dp_new (im i) st (im i).length)))) h) : pm_X xs 2 mD_idsNewToStore [.ref b, .ref (b + 3 + 3 * i)] h Q := by
  obtain ⟨c1, c2, c3, c4, c5, -⟩ := id hb
  have hp := c4 i hi
  obtain ⟨es, is, p1, p2, p3, p4, p5, p6, p7, p8⟩ := id hp
  obtain ⟨ids, rows, s1, s2, s3, s4, s5, s6, s7, -⟩ := id c5
  have loop : ∀ (r n : Nat) (v : Value), n + r = (im i).length → pm_W xs 2 mD_idsNewToStore 4 [.ref b, .ref (b + 3 + 3 * i), .int (nI (dp_new (im i) st n)), .int (nI n), v] [] h Q := by
    intro r
    induction r with
    | zero =>
      intro n v hn
      (repeat (first | refine pm_W.ts rfl rfl ?_ | refine pm_W.tl rfl rfl ?_))
      refine pm_W.callV (d' := 0) rfl rfl rfl rfl (fr_ble rfl) p1 (fr_ble rfl) (ct_P_count hp ?_)
      refine pm_W.icmp rfl (fun c => ?_) (fun c => ?_)
      · (repeat (first | refine pm_W.ts rfl rfl ?_ | refine pm_W.tl rfl rfl ?_))
        rw [show n = (im i).length by omega]
        exact pm_W.iret rfl rfl k
      · have c : ¬ nI (im i).length ≤ nI n := c
        rw [nI_leI (by omega) (by omega)] at c
        omega
    | succ r ih =>
      intro n v hn
      have no : dp_isnew (im i) st n = false → pm_W xs 2 mD_idsNewToStore 45 [.ref b, .ref (b + 3 + 3 * i), .int (nI (dp_new (im i) st n)), .int (nI n), .int (pl_i (im i) n)] [] h Q := by
        intro q
        have i1 := ih (n + 1) (.int (pl_i (im i) n)) (by omega)
        rw [show dp_new (im i) st (n + 1) = dp_new (im i) st n from by show _ + _ = _; rw [q]; rfl, ← fr_inc n] at i1
        (iterate 1 (first | refine pm_W.ts rfl rfl ?_ | refine pm_W.tl rfl rfl ?_))
        refine pm_W.goto rfl ?_
        exact i1
      (repeat (first | refine pm_W.ts rfl rfl ?_ | refine pm_W.tl rfl rfl ?_))
      refine pm_W.callV (d' := 0) rfl rfl rfl rfl (fr_ble rfl) p1 (fr_ble rfl) (ct_P_count hp ?_)
      refine pm_W.icmp rfl (fun c => ?_) (fun c => ?_)
      · have c : nI (im i).length ≤ nI n := c
        rw [nI_leI (by omega) (by omega)] at c
        omega
      · (repeat (first | refine pm_W.ts rfl rfl ?_ | refine pm_W.tl rfl rfl ?_))
        refine pm_W.callV (d' := 1) rfl rfl rfl rfl (fr_ble rfl) p1 (fr_ble rfl) (ct_P_idOf hp (by omega) ?_)
        (repeat (first | refine pm_W.ts rfl rfl ?_ | refine pm_W.tl rfl rfl ?_ | refine pm_W.get rfl rfl c1 rfl ?_))
        refine pm_W.callV (d' := 0) rfl rfl rfl rfl (fr_ble rfl) s1 (fr_ble rfl) (ct_K_placeOf c5 (fun p q1 q2 q3 => ?_) (fun hno => ?_))
        · (repeat (first | refine pm_W.ts rfl rfl ?_ | refine pm_W.tl rfl rfl ?_))
          refine pm_W.icmp rfl (fun c2 => ?_) (fun c2 => ?_)
          · have e : ex_kp st (pl_i (im i) n) = some p := fr_find_is q1 (decide_eq_true q2) (fun j hj => decide_eq_false (q3 j hj))
            exact no (by unfold dp_isnew; rw [e]; rfl)
          · have c2 : ¬ ¬ nI p = -1 := c2
            exact absurd (Classical.not_not.mp c2) (fr_not1 (by omega))
        · have e : ex_kp st (pl_i (im i) n) = none := fr_find_no (fun j hj => decide_eq_false (hno j hj))
          (repeat (first | refine pm_W.ts rfl rfl ?_ | refine pm_W.tl rfl rfl ?_))
          refine pm_W.icmp rfl (fun c2 => absurd rfl c2) (fun c2 => ?_)
          (repeat (first | refine pm_W.ts rfl rfl ?_ | refine pm_W.tl rfl rfl ?_))
          refine pm_W.callV (d' := 0) rfl rfl rfl rfl (fr_ble rfl) p1 (fr_ble rfl) (ct_P_firstWithId hp (fun t t1 t2 t3 => ?_) (fun hno2 => absurd rfl (hno2 n (by omega))))
          have e2 : fr_find (fun j => decide (pl_i (im i) j = pl_i (im i) n)) (im i).length = some t := fr_find_is t1 (decide_eq_true t2) (fun j hj => decide_eq_false (t3 j hj))
          (repeat (first | refine pm_W.ts rfl rfl ?_ | refine pm_W.tl rfl rfl ?_))
          refine pm_W.icmp rfl (fun c3 => ?_) (fun c3 => ?_)
          · have c3 : ¬ nI t = nI n := c3
            rw [nI_eq (by omega) (by omega)] at c3
            exact no (by unfold dp_isnew; rw [e2, decide_eq_false (fun q => c3 (Option.some.inj q)), Bool.and_false])
          · have c3 : ¬ ¬ nI t = nI n := c3
            have c3 := Classical.not_not.mp c3
            rw [nI_eq (by omega) (by omega)] at c3
            subst c3
            have i1 := ih (t + 1) (.int (pl_i (im i) t)) (by omega)
            rw [show dp_new (im i) st (t + 1) = dp_new (im i) st t + 1 from by show _ + _ = _; rw [show dp_isnew (im i) st t = true from by unfold dp_isnew; rw [e, e2, decide_eq_true rfl, decide_eq_true rfl]; rfl]; rfl, ← fr_inc t, ← fr_inc (dp_new (im i) st t)] at i1
            (iterate 2 (first | refine pm_W.ts rfl rfl ?_ | refine pm_W.tl rfl rfl ?_))
            refine pm_W.goto rfl ?_
            exact i1
  unfold pm_X
  (iterate 4 (first | refine pm_W.ts rfl rfl ?_ | refine pm_W.tl rfl rfl ?_))
  exact loop (im i).length 0 pm_none (by omega)
theorem ct_D_storePieces {i : Nat} {os : List Int32} (hb : dp_R h b z im st ca sd ws ta f S) (hi : i < 4) (ho : bt_R h (b + 126) 117 os) (hok : bt_ok os) (hv : pl_V (im i) os.length) (hl : os.length ≤ 117) (hfit : st.length + dp_new (im i) st (im i).length ≤ 40)
    (k : ∀ h' : pm_H, dp_R h' b z im (ms_go (im i) os st (im i).length) ca sd ws ta f S → fr_ag b (b + 185) h h' → Q none h') : pm_X xs 4 mD_storePieces [.ref b, .ref (b + 3 + 3 * i)] h Q := by
  have loop : ∀ (r n : Nat) (v : Value) (g : pm_H), n + r = (im i).length → dp_R g b z im (ms_go (im i) os st n) ca sd ws ta f S → bt_R g (b + 126) 117 os → fr_ag b (b + 185) h g → pm_W xs 4 mD_storePieces 2 [.ref b, .ref (b + 3 + 3 * i), .int (nI n), v] [] g Q := by
    intro r
    induction r with
    | zero =>
      intro n v g hn hg hgo hag
      obtain ⟨c1, c2, c3, c4, c5, -⟩ := id hg
      have hp := c4 i hi
      obtain ⟨es, is, p1, p2, p3, p4, p5, p6, p7, p8⟩ := id hp
      (repeat (first | refine pm_W.ts rfl rfl ?_ | refine pm_W.tl rfl rfl ?_))
      refine pm_W.callV (d' := 0) rfl rfl rfl rfl (fr_ble rfl) p1 (fr_ble rfl) (ct_P_count hp ?_)
      refine pm_W.icmp rfl (fun c => ?_) (fun c => ?_)
      · rw [show n = (im i).length by omega] at hg
        exact pm_W.ret rfl rfl (k g hg hag)
      · have c : ¬ nI (im i).length ≤ nI n := c
        rw [nI_leI (by omega) (by omega)] at c
        omega
    | succ r ih =>
      intro n v g hn hg hgo hag
      obtain ⟨c1, c2, c3, c4, c5, -⟩ := id hg
      have hp := c4 i hi
      obtain ⟨es, is, p1, p2, p3, p4, p5, p6, p7, p8⟩ := id hp
      obtain ⟨ids, rows, s1, s2, s3, s4, s5, s6, s7, -⟩ := id c5
      have hvn := hv n (by omega)
      have en : ex_n (im i) n = pl_e (im i) n - pl_s (im i) n := rfl
      (repeat (first | refine pm_W.ts rfl rfl ?_ | refine pm_W.tl rfl rfl ?_))
      refine pm_W.callV (d' := 0) rfl rfl rfl rfl (fr_ble rfl) p1 (fr_ble rfl) (ct_P_count hp ?_)
      refine pm_W.icmp rfl (fun c => ?_) (fun c => ?_)
      · have c : nI (im i).length ≤ nI n := c
        rw [nI_leI (by omega) (by omega)] at c
        omega
      · (repeat (first | refine pm_W.ts rfl rfl ?_ | refine pm_W.tl rfl rfl ?_))
        refine pm_W.callV (d' := 1) rfl rfl rfl rfl (fr_ble rfl) p1 (fr_ble rfl) (ct_P_idOf hp (by omega) ?_)
        (repeat (first | refine pm_W.ts rfl rfl ?_ | refine pm_W.tl rfl rfl ?_ | refine pm_W.get rfl rfl c1 rfl ?_))
        refine pm_W.callV (d' := 0) rfl rfl rfl rfl (fr_ble rfl) s1 (fr_ble rfl) (ct_K_placeOf c5 (fun p q1 q2 q3 => ?_) (fun hno => ?_))
        · have e : ex_kp (ms_go (im i) os st n) (pl_i (im i) n) ≠ none := ex_kp_some.mp ⟨p, q1, q2⟩
          (repeat (first | refine pm_W.ts rfl rfl ?_ | refine pm_W.tl rfl rfl ?_))
          refine pm_W.icmp rfl (fun c2 => ?_) (fun c2 => ?_)
          · (iterate 1 (first | refine pm_W.ts rfl rfl ?_ | refine pm_W.tl rfl rfl ?_))
            refine pm_W.goto rfl ?_
            have := ih (n + 1) (.int (pl_i (im i) n)) g (by omega) (by rw [ms_go, if_neg e]; exact hg) hgo hag
            rw [← fr_inc n] at this
            exact this
          · have c2 : ¬ ¬ nI p = -1 := c2
            exact absurd (Classical.not_not.mp c2) (fr_not1 (by omega))
        · have e : ex_kp (ms_go (im i) os st n) (pl_i (im i) n) = none := fr_find_no (fun j hj => decide_eq_false (hno j hj))
          have hlen : (ms_go (im i) os st n).length < 40 := by
            have h1 := ms_len (ps := im i) (os := os) (st := st) n (by omega)
            have h2 := ms_len (ps := im i) (os := os) (st := st) (n + 1) (by omega)
            have h3 : (ms_go (im i) os st (n + 1)).length = (ms_go (im i) os st n).length + 1 := by rw [ms_go, if_pos e, List.length_append, List.length_singleton]
            have h4 := dp_new_mono (ps := im i) (st := st) r (n + 1)
            rw [show n + 1 + r = (im i).length by omega] at h4
            omega
          (repeat (first | refine pm_W.ts rfl rfl ?_ | refine pm_W.tl rfl rfl ?_))
          refine pm_W.icmp rfl (fun c2 => absurd rfl c2) (fun c2 => ?_)
          (repeat (first | refine pm_W.ts rfl rfl ?_ | refine pm_W.tl rfl rfl ?_ | refine pm_W.get rfl rfl c1 rfl ?_))
          refine pm_W.callV (d' := 1) rfl rfl rfl rfl (fr_ble rfl) p1 (fr_ble rfl) (ct_P_startOf hp (by omega) ?_)
          (repeat (first | refine pm_W.ts rfl rfl ?_ | refine pm_W.tl rfl rfl ?_))
          refine pm_W.callV (d' := 2) rfl rfl rfl rfl (fr_ble rfl) p1 (fr_ble rfl) (ct_P_lengthOf hp (by omega) ?_)
          rw [show nI (pl_e (im i) n) - nI (pl_s (im i) n) = nI (ex_n (im i) n) from ex_n_eq hv (by omega)]
          refine pm_W.callV rfl rfl rfl rfl (fr_ble rfl) s1 (fr_ble rfl) (ct_K_put c5 (by omega) hgo (by omega) (by omega) (fun q q1 q2 q3 => absurd q2 (hno q q1)) (fun _ g2 hg2 hag2 => ?_))
          rw [bt_from_sub hok (by omega) (by omega), kp_room, if_neg (by omega)] at hg2
          (iterate 1 (first | refine pm_W.ts rfl rfl ?_ | refine pm_W.tl rfl rfl ?_))
          refine pm_W.goto rfl ?_
          have := ih (n + 1) (.int (pl_i (im i) n)) g2 (by omega) (by rw [ms_go, if_pos e]; exact hg.ust hg2 (hag2.wide (by omega) (by omega))) (hgo.ag hag2 (by omega)) (hag.tr (hag2.wide (by omega) (by omega)))
          rw [← fr_inc n] at this
          exact this
  unfold pm_X
  (iterate 2 (first | refine pm_W.ts rfl rfl ?_ | refine pm_W.tl rfl rfl ?_))
  exact loop (im i).length 0 pm_none h (by omega) hb ho fr_ag.rf
end MAKE
theorem pl_e_app {ps : dp_P} {q : Nat × Int32} {i : Nat} (hi : i < ps.length) : pl_e (ps ++ [q]) i = pl_e ps i := by
  unfold pl_e
  rw [List.getD_eq_getElem?_getD, List.getElem?_append_left hi, List.getD_eq_getElem?_getD]
theorem pl_e_last {ps : dp_P} {q : Nat × Int32} : pl_e (ps ++ [q]) ps.length = q.1 := by simp [pl_e]
theorem pl_s_app {ps : dp_P} {q : Nat × Int32} {i : Nat} (hi : i ≤ ps.length) : pl_s (ps ++ [q]) i = pl_s ps i := by
  cases i with
  | zero => rfl
  | succ i => exact pl_e_app (by omega)
theorem cz_cut_V {z : cz_N} {bs : List Int32} (hz : cz_ok z) : ∀ e, e ≤ bs.length → pl_V (cz_cut z bs e).1 bs.length ∧ pl_s (cz_cut z bs e).1 (cz_cut z bs e).1.length = (cz_cut z bs e).2 ∧ (cz_cut z bs e).2 ≤ e ∧ (e < bs.length → e - (cz_cut z bs e).2 < z.2.2) := by
  obtain ⟨z1, z2, z3, z4⟩ := id hz
  intro e
  induction e with
  | zero => intro _; exact ⟨(fun i hi => by cases hi), rfl, Nat.le_refl _, fun _ => by show 0 - 0 < z.2.2; omega⟩
  | succ e ih =>
    intro he
    obtain ⟨i1, i2, i3, i4⟩ := ih (by omega)
    have i4 := i4 (by omega)
    have e0 : cz_cut z bs (e + 1) = if cz_end z bs (cz_cut z bs e).2 (e + 1) = true then ((cz_cut z bs e).1 ++ [(e + 1, bt_id bs (nI (cz_cut z bs e).2) (e + 1 - (cz_cut z bs e).2))], e + 1) else cz_cut z bs e := rfl
    rw [e0]
    by_cases hc : cz_end z bs (cz_cut z bs e).2 (e + 1) = true
    · rw [if_pos hc]
      refine ⟨fun i hi => ?_, ?_, Nat.le_refl _, fun _ => by show e + 1 - (e + 1) < _; omega⟩
      · have hi : i < ((cz_cut z bs e).1 ++ [(e + 1, bt_id bs (nI (cz_cut z bs e).2) (e + 1 - (cz_cut z bs e).2))]).length := hi
        rw [List.length_append, List.length_singleton] at hi
        show pl_s ((cz_cut z bs e).1 ++ [_]) i < pl_e ((cz_cut z bs e).1 ++ [_]) i ∧ pl_e ((cz_cut z bs e).1 ++ [_]) i ≤ pl_s ((cz_cut z bs e).1 ++ [_]) i + 32 ∧ pl_e ((cz_cut z bs e).1 ++ [_]) i ≤ bs.length
        rw [pl_s_app (by omega)]
        by_cases hil : i < (cz_cut z bs e).1.length
        · rw [pl_e_app hil]
          exact i1 i hil
        · have e1 : i = (cz_cut z bs e).1.length := by omega
          rw [e1, pl_e_last, i2]
          show _ < e + 1 ∧ e + 1 ≤ _ ∧ e + 1 ≤ _
          omega
      · show pl_s ((cz_cut z bs e).1 ++ [_]) ((cz_cut z bs e).1 ++ [_]).length = e + 1
        rw [List.length_append, List.length_singleton]
        exact pl_e_last
    · rw [if_neg hc]
      refine ⟨i1, i2, by omega, fun hlt => ?_⟩
      have hne : ¬ (e + 1 - (cz_cut z bs e).2 = z.2.2) := fun q => hc (decide_eq_true (Or.inr (Or.inl q)))
      omega
