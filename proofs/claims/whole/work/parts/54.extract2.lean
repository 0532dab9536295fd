def sd_V (sd : Nat → List Int32 × dp_P) : Prop := ∀ s, s < 2 → bt_ok (sd s).1 ∧ pl_V (sd s).2 (sd s).1.length
theorem fr_un_lt {x : Int32} (h : x &&& 255 = x) : fr_un x < 256 := by
  obtain ⟨p, hp, rfl⟩ := fr_any x
  have e := fr_mask (a := p) 8
  have e2 : nI p = nI (p % 2 ^ 8) := by rw [← e]; exact h.symm
  rw [e2]
  unfold fr_un
  rw [fr_u, UInt32.toNat_ofNat']
  omega
theorem rd_by_app {ws : List Nat} {bs : List Int32} (h1 : rd_by ws) (h2 : bt_ok bs) : rd_by (ws ++ bs.map fr_un) := by
  intro x hx
  rcases List.mem_append.mp hx with q | q
  · exact h1 x q
  · obtain ⟨y, hy, rfl⟩ := List.mem_map.mp q
    exact fr_un_lt (h2 y hy)
theorem bt_ok_sub {bs : List Int32} {s n : Nat} (h : bt_ok bs) : bt_ok (bt_sub bs s n) := fun x hx => h x (List.mem_of_mem_drop (List.mem_of_mem_take hx))
theorem kp_b_at {L : dp_K} {i : Nat} {q : Int32 × List Int32} (h : L[i]? = some q) : kp_b L i = q.2 := by
  unfold kp_b
  rw [List.getD_eq_getElem?_getD, h]
  rfl
theorem kp_i_at {L : dp_K} {i : Nat} {q : Int32 × List Int32} (h : L[i]? = some q) : kp_i L i = q.1 := by
  unfold kp_i
  rw [List.getD_eq_getElem?_getD, h]
  rfl
theorem kp_by_mem {L : dp_K} : kp_by L ↔ ∀ q ∈ L, bt_ok q.2 := by
  constructor
  · intro h q hq
    obtain ⟨i, hi, rfl⟩ := List.getElem_of_mem hq
    have := h i hi
    rw [kp_b_at (List.getElem?_eq_getElem hi)] at this
    exact this
  · intro h i hi
    rw [kp_b_at (List.getElem?_eq_getElem hi)]
    exact h _ (List.getElem_mem hi)
theorem kp_by_put {room : Nat} {L : dp_K} {w : Int32} {bs : List Int32} (h : kp_by L) (hb : bt_ok bs) : kp_by (kp_put room L w bs) := by
  rw [kp_by_mem] at h ⊢
  intro q hq
  unfold kp_put at hq
  split at hq
  · rcases List.mem_or_eq_of_mem_set hq with z | z
    · exact h q z
    · rw [z]; exact hb
  · rcases List.mem_append.mp hq with z | z
    · unfold kp_room at z
      split at z
      · exact h q (List.mem_of_mem_eraseIdx z)
      · exact h q z
    · rw [List.mem_singleton.mp z]; exact hb
theorem ex_good_some {L : dp_K} {w : Int32} {n p : Nat} (h : ex_good L w n = some p) : p < L.length ∧ kp_i L p = w ∧ (kp_b L p).length = n ∧ bt_id (kp_b L p) 0 n = w := by
  unfold ex_good at h
  cases e : ex_kp L w with
  | none => rw [e] at h; cases h
  | some q =>
    rw [e] at h
    obtain ⟨g1, g2, g3⟩ := fr_find_some e
    have h : (if (kp_b L q).length = n ∧ bt_id (kp_b L q) 0 n = w then some q else none) = some p := h
    by_cases c : (kp_b L q).length = n ∧ bt_id (kp_b L q) 0 n = w
    · rw [if_pos c] at h
      cases h
      exact ⟨g1, of_decide_eq_true g2, c⟩
    · rw [if_neg c] at h
      cases h
theorem ex_seed_some {q : List Int32 × dp_P} {w : Int32} {n i : Nat} (h : ex_seed q w n = some i) : i < q.2.length ∧ pl_i q.2 i = w ∧ pl_n q.2 i = nI n := by
  obtain ⟨h1, h2, -⟩ := fr_find_some h
  simp only [Bool.and_eq_true, decide_eq_true_eq] at h2
  exact ⟨h1, h2.1, h2.2.1⟩
theorem sd_len {sd : Nat → List Int32 × dp_P} {s i n : Nat} (hv : sd_V sd) (hs : s < 2) (hi : i < (sd s).2.length) (hn : n ≤ 32) (e : pl_n (sd s).2 i = nI n) : pl_s (sd s).2 i + n ≤ (sd s).1.length := by
  have h1 := (hv s hs).2 i hi
  have h2 := ex_n_eq (hv s hs).2 hi
  rw [h2, nI_eq (by unfold ex_n; omega) (by omega)] at e
  unfold ex_n at e
  omega
theorem ex_sd_len {sd : Nat → List Int32 × dp_P} {w : Int32} {n : Nat} (hv : sd_V sd) (hn : n ≤ 32) : ∀ r, r ≤ 2 → ∀ bs, ex_sd sd w n r = some bs → bs.length = n ∧ bt_ok bs := by
  intro r
  induction r with
  | zero => intro _ bs h; cases h
  | succ r ih =>
    intro hr bs h
    unfold ex_sd at h
    cases e : ex_seed (sd (1 - r)) w n with
    | none => rw [e] at h; exact ih (by omega) bs h
    | some i =>
      rw [e] at h
      cases h
      obtain ⟨g1, g2, g3⟩ := ex_seed_some e
      have := sd_len hv (by omega) g1 hn g3
      exact ⟨by rw [bt_sub, List.length_take, List.length_drop]; omega, bt_ok_sub (hv _ (by omega)).1⟩
section EXTR2
variable {xs : List Int32} {h : pm_H} {b : Nat} {z : cz_N} {im : Nat → dp_P} {st ca : dp_K} {sd : Nat → List Int32 × dp_P} {ws ta : List Nat} {f : Bool} {S : tr_S} {Q : Option Value → pm_H → Prop}
theorem ct_D_writeSeeded {w : Int32} {n : Nat} (hb : dp_R h b z im st ca sd ws ta f S) (hv : sd_V sd) (hn : n ≤ 32) (hl : ws.length + n ≤ 120)
    (k1 : ∀ bs, ex_sd sd w n 2 = some bs → ∀ h' : pm_H, dp_R h' b z im st ca sd (ws ++ bs.map fr_un) (ta_inc ta 2) f S → fr_ag b (b + 185) h h' → Q (some (.int 1)) h')
    (k0 : ex_sd sd w n 2 = none → Q (some (.int 0)) h) : pm_X xs 4 mD_writeSeeded [.ref b, .int w, .int (nI n)] h Q := by
  obtain ⟨c1, c2, c3, c4, c5, c6, c7, c8, c9, c10, c11, c12, -⟩ := id hb
  have loop : ∀ (r s : Nat) (v : Value), s + r = 2 → ex_sd sd w n r = ex_sd sd w n 2 → pm_W xs 4 mD_writeSeeded 2 [.ref b, .int w, .int (nI n), .int (nI s), v] [] h Q := by
    intro r
    induction r with
    | zero =>
      intro s v hs he
      (repeat (first | refine pm_W.ts rfl rfl ?_ | refine pm_W.tl rfl rfl ?_))
      refine pm_W.icmp rfl (fun c => ?_) (fun c => ?_)
      · (repeat (first | refine pm_W.ts rfl rfl ?_ | refine pm_W.tl rfl rfl ?_))
        exact pm_W.iret rfl rfl (k0 he.symm)
      · have c : ¬ nI 2 ≤ nI s := c
        rw [nI_leI (by omega) (by omega)] at c
        omega
    | succ r ih =>
      intro s v hs he
      have es : 1 - r = s := by omega
      have hsd := c8 s (by omega)
      have e1 : ex_sd sd w n (r + 1) = match ex_seed (sd s) w n with | some i => some (bt_sub (sd s).1 (pl_s (sd s).2 i) n) | none => ex_sd sd w n r := by
        rw [← es]
        rfl
      rw [e1] at he
      (repeat (first | refine pm_W.ts rfl rfl ?_ | refine pm_W.tl rfl rfl ?_))
      refine pm_W.icmp rfl (fun c => ?_) (fun c => ?_)
      · have c : nI 2 ≤ nI s := c
        rw [nI_leI (by omega) (by omega)] at c
        omega
      · (repeat (first | refine pm_W.ts rfl rfl ?_ | refine pm_W.tl rfl rfl ?_ | refine pm_W.get rfl rfl c1 rfl ?_))
        refine pm_W.aald rfl c7 (pm_ix_ok (j := s) (show s < 2 by omega) (show 2 < 2 ^ 31 by omega)) (by decide) ?_
        rw [dp_sd2 (by omega)]
        (repeat (first | refine pm_W.ts rfl rfl ?_ | refine pm_W.tl rfl rfl ?_))
        refine pm_W.callV rfl rfl rfl rfl (fr_ble rfl) hsd.1 (fr_ble rfl) (ct_S_startOfGood hsd (by omega) (fun i hi hg hno => ?_) (fun hno => ?_))
        · have e2 : ex_seed (sd s) w n = some i := fr_find_is hi (by
            simp only [Bool.and_eq_true, decide_eq_true_eq]
            exact hg) (fun j hj => by
            have := hno j hj
            cases hq : (decide (pl_i (sd s).2 j = w) && (decide (pl_n (sd s).2 j = nI n) && decide (bt_id (sd s).1 (nI (pl_s (sd s).2 j)) n = w))) with
            | false => rfl
            | true =>
              simp only [Bool.and_eq_true, decide_eq_true_eq] at hq
              exact absurd hq this)
          rw [e2] at he
          have hlen := sd_len hv (show s < 2 by omega) hi hn hg.2.1
          obtain ⟨ys, w1, -⟩ := id c10
          obtain ⟨zs, b1, b2, b3, b4, b5, b6⟩ := id hsd.2.1
          (repeat (first | refine pm_W.ts rfl rfl ?_ | refine pm_W.tl rfl rfl ?_))
          refine pm_W.icmp rfl (fun c => absurd c (fr_not1 (by omega))) (fun c => ?_)
          (repeat (first | refine pm_W.ts rfl rfl ?_ | refine pm_W.tl rfl rfl ?_ | refine pm_W.get rfl rfl c1 rfl ?_))
          refine pm_W.aald rfl c7 (pm_ix_ok (j := s) (show s < 2 by omega) (show 2 < 2 ^ 31 by omega)) (by decide) ?_
          rw [dp_sd2 (by omega)]
          refine pm_W.callV (d' := 0) rfl rfl rfl rfl (fr_ble rfl) hsd.1 (fr_ble rfl) (ct_S_bytes hsd ?_)
          (repeat (first | refine pm_W.ts rfl rfl ?_ | refine pm_W.tl rfl rfl ?_))
          refine pm_W.callV (d' := 2) rfl rfl rfl rfl (fr_ble rfl) w1 (fr_ble rfl) (ct_B_addFrom c10 hsd.2.1 (by omega) (by rw [List.length_map]; omega) (fun g hg2 hag => ?_))
          rw [bt_from_sub (hv s (by omega)).1 hlen (by omega), ← fr_un_map (bt_sub (sd s).1 (pl_s (sd s).2 i) n), ← List.map_append] at hg2
          have hb2 := hb.uws hg2 hag
          have c1' := hag.at (by omega) c1
          have c11' := hag.at (by omega) c11
          (repeat (first | refine pm_W.ts rfl rfl ?_ | refine pm_W.tl rfl rfl ?_ | refine pm_W.get rfl rfl c1' rfl ?_))
          refine pm_W.iald (j := nI 2) rfl c11' (pm_ix_ok (j := 2) (by rw [List.length_map]; omega) (by rw [List.length_map]; omega)) ?_
          rw [fr_mapD]
          (iterate 2 (first | refine pm_W.ts rfl rfl ?_ | refine pm_W.tl rfl rfl ?_))
          refine pm_W.iast (j := nI 2) (x := nI (ta.getD 2 0) + 1) rfl c11' (pm_ix_ok (j := 2) (by rw [List.length_map]; omega) (by rw [List.length_map]; omega)) ?_
          rw [nI_1]
          (repeat (first | refine pm_W.ts rfl rfl ?_ | refine pm_W.tl rfl rfl ?_))
          exact pm_W.iret rfl rfl (k1 _ he.symm _ (dp_tally hb2 (by omega)) ((hag.wide (by omega) (by omega)).tr (fr_agset (by omega) (by omega))))
        · have e2 : ex_seed (sd s) w n = none := fr_find_no (fun j hj => by
            have := hno j hj
            cases hq : (decide (pl_i (sd s).2 j = w) && (decide (pl_n (sd s).2 j = nI n) && decide (bt_id (sd s).1 (nI (pl_s (sd s).2 j)) n = w))) with
            | false => rfl
            | true =>
              simp only [Bool.and_eq_true, decide_eq_true_eq] at hq
              exact absurd hq this)
          rw [e2] at he
          (repeat (first | refine pm_W.ts rfl rfl ?_ | refine pm_W.tl rfl rfl ?_))
          refine pm_W.icmp rfl (fun c => ?_) (fun c => absurd rfl c)
          (repeat (first | refine pm_W.ts rfl rfl ?_ | refine pm_W.tl rfl rfl ?_))
          refine pm_W.goto rfl ?_
          have := ih (s + 1) (.int (-1)) (by omega) he
          rw [← fr_inc] at this
          exact this
  unfold pm_X
  (iterate 2 (first | refine pm_W.ts rfl rfl ?_ | refine pm_W.tl rfl rfl ?_))
  exact loop 2 0 pm_none (by omega) rfl
theorem ct_D_writePiece {i k : Nat} (hb : dp_R h b z im st ca sd ws ta f S) (hi : i < 4) (hk : k < (im i).length) (hv : pl_V (im i) 117) (hws : ws.length = pl_s (im i) k) (hby : rd_by ws) (hst : kp_by st) (hca : kp_by ca) (hsd : sd_V sd)
    (k1 : ∀ (ca' : dp_K) (ws' ta' : List Nat), ex_one (im i) st sd ca ws ta k = (some (ca', ws'), ta') → ∀ h' : pm_H, dp_R h' b z im st ca' sd ws' ta' f S → fr_ag b (b + 185) h h' → Q (some (.int 1)) h')
    (k0 : ∀ ta' : List Nat, ex_one (im i) st sd ca ws ta k = (none, ta') → ∀ h' : pm_H, dp_R h' b z im st ca sd ws ta' f S → fr_ag b (b + 185) h h' → Q (some (.int 0)) h') : pm_X xs 5 mD_writePiece [.ref b, .ref (b + 3 + 3 * i), .int (nI k)] h Q := by
  obtain ⟨c1, c2, c3, c4, -⟩ := id hb
  have hp := c4 i hi
  obtain ⟨es, is, p1, p2, p3, p4, p5, p6, p7, p8⟩ := id hp
  have hvk := hv k hk
  have en : ex_n (im i) k = pl_e (im i) k - pl_s (im i) k := rfl
  unfold pm_X
  (repeat (first | refine pm_W.ts rfl rfl ?_ | refine pm_W.tl rfl rfl ?_))
  refine pm_W.callV (d' := 1) rfl rfl rfl rfl (fr_ble rfl) p1 (fr_ble rfl) (ct_P_idOf hp hk ?_)
  (repeat (first | refine pm_W.ts rfl rfl ?_ | refine pm_W.tl rfl rfl ?_))
  refine pm_W.callV (d' := 2) rfl rfl rfl rfl (fr_ble rfl) p1 (fr_ble rfl) (ct_P_lengthOf hp (by omega) ?_)
  rw [show nI (pl_e (im i) k) - nI (pl_s (im i) k) = nI (ex_n (im i) k) from ex_n_eq hv hk]
  (repeat (first | refine pm_W.ts rfl rfl ?_ | refine pm_W.tl rfl rfl ?_))
  refine pm_W.callV rfl rfl rfl rfl (fr_ble rfl) c1 (fr_ble rfl) (ct_D_writeAgain hb hi hk hv hws hby (fun j ej g hg hag => ?_) (fun ea => ?_))
  · refine pm_W.ifz rfl (fun c => ?_) (fun c => absurd (show ¬ (1 : Int32) = 0 by decide) c)
    (repeat (first | refine pm_W.ts rfl rfl ?_ | refine pm_W.tl rfl rfl ?_))
    refine pm_W.goto rfl ?_
    exact pm_W.iret rfl rfl (k1 _ _ _ (by unfold ex_one; rw [ej]) g hg hag)
  · refine pm_W.ifz rfl (fun c => absurd rfl c) (fun c => ?_)
    (repeat (first | refine pm_W.ts rfl rfl ?_ | refine pm_W.tl rfl rfl ?_))
    refine pm_W.callV rfl rfl rfl rfl (fr_ble rfl) c1 (fr_ble rfl) (ct_D_writeCached hb hca (by omega) (by omega) (fun p ep g hg hag => ?_) (fun ec => ?_))
    · refine pm_W.ifz rfl (fun c => ?_) (fun c => absurd (show ¬ (1 : Int32) = 0 by decide) c)
      (repeat (first | refine pm_W.ts rfl rfl ?_ | refine pm_W.tl rfl rfl ?_))
      refine pm_W.goto rfl ?_
      exact pm_W.iret rfl rfl (k1 _ _ _ (by unfold ex_one; rw [ea, ep]) g hg hag)
    · refine pm_W.ifz rfl (fun c => absurd rfl c) (fun c => ?_)
      (repeat (first | refine pm_W.ts rfl rfl ?_ | refine pm_W.tl rfl rfl ?_))
      refine pm_W.callV rfl rfl rfl rfl (fr_ble rfl) c1 (fr_ble rfl) (ct_D_writeSeeded hb hsd (by omega) (by omega) (fun bs ebs g hg hag => ?_) (fun es2 => ?_))
      · refine pm_W.ifz rfl (fun c => ?_) (fun c => absurd (show ¬ (1 : Int32) = 0 by decide) c)
        (repeat (first | refine pm_W.ts rfl rfl ?_ | refine pm_W.tl rfl rfl ?_))
        refine pm_W.goto rfl ?_
        exact pm_W.iret rfl rfl (k1 _ _ _ (by unfold ex_one; rw [ea, ec, ebs]) g hg hag)
      · refine pm_W.ifz rfl (fun c => absurd rfl c) (fun c => ?_)
        (repeat (first | refine pm_W.ts rfl rfl ?_ | refine pm_W.tl rfl rfl ?_))
        refine pm_W.callV rfl rfl rfl rfl (fr_ble rfl) c1 (fr_ble rfl) (ct_D_writeAsked hb hst (by omega) (by omega) (fun p ep g hg hag => ?_) (fun eg g hg hag => ?_))
        · refine pm_W.ifz rfl (fun c => absurd (show (1 : Int32) = 0 from c) (by decide)) (fun c => ?_)
          (repeat (first | refine pm_W.ts rfl rfl ?_ | refine pm_W.tl rfl rfl ?_))
          refine pm_W.goto rfl ?_
          exact pm_W.iret rfl rfl (k1 _ _ _ (by unfold ex_one ex_ask; rw [ea, ec, es2, ep]) g hg hag)
        · refine pm_W.ifz rfl (fun c => ?_) (fun c => absurd rfl c)
          (repeat (first | refine pm_W.ts rfl rfl ?_ | refine pm_W.tl rfl rfl ?_))
          exact pm_W.iret rfl rfl (k0 _ (by unfold ex_one ex_ask; rw [ea, ec, es2, eg]) g hg hag)
def ex_go (ps : dp_P) (st : dp_K) (sd : Nat → List Int32 × dp_P) : Nat → Nat → dp_K → List Nat → List Nat → Option Nat × dp_K × List Nat × List Nat
  | 0, _, ca, ws, ta => (none, ca, ws, ta)
  | r + 1, k, ca, ws, ta => match ex_one ps st sd ca ws ta k with
    | (some q, ta') => ex_go ps st sd r (k + 1) q.1 q.2 ta'
    | (none, ta') => (some k, ca, [], ta')
def ex_ans (q : Option Nat × dp_K × List Nat × List Nat) : Int32 := match q.1 with
  | none => nI q.2.2.1.length
  | some k => -2 - nI k
theorem ex_one_inv {ps : dp_P} {ca' : dp_K} {ws' ta' : List Nat} {k : Nat} (hk : k < ps.length) (hv : pl_V ps 117) (hws : ws.length = pl_s ps k) (hby : rd_by ws) (hst : kp_by st) (hca : kp_by ca) (hsd : sd_V sd) (e : ex_one ps st sd ca ws ta k = (some (ca', ws'), ta')) : ws'.length = pl_e ps k ∧ rd_by ws' ∧ kp_by ca' := by
  have hvk := hv k hk
  have en : ex_n ps k = pl_e ps k - pl_s ps k := rfl
  unfold ex_one at e
  split at e
  · rename_i j ej
    obtain ⟨g1, g2, -⟩ := fr_find_some ej
    simp only [Bool.and_eq_true, decide_eq_true_eq] at g2
    have hvj := hv j (by omega)
    have hm := pl_mono' hv g1 hk
    have e2 : ex_n ps j = ex_n ps k := by
      have := g2.2
      rw [ex_n_eq hv (show j < ps.length by omega), ex_n_eq hv hk, nI_eq (by unfold ex_n; omega) (by unfold ex_n; omega)] at this
      exact this
    have ej2 : ex_n ps j = pl_e ps j - pl_s ps j := rfl
    cases e
    refine ⟨by rw [List.length_append, List.length_take, List.length_drop]; omega, fun x hx => ?_, hca⟩
    rcases List.mem_append.mp hx with q | q
    · exact hby x q
    · exact hby x (List.mem_of_mem_drop (List.mem_of_mem_take q))
  · split at e
    · rename_i p ep
      obtain ⟨g1, g2, g3, g4⟩ := ex_good_some ep
      cases e
      exact ⟨by rw [List.length_append, List.length_map]; omega, rd_by_app hby (hca p g1), hca⟩
    · split at e
      · rename_i bs ebs
        obtain ⟨g1, g2⟩ := ex_sd_len hsd (by omega) 2 (Nat.le_refl _) bs ebs
        cases e
        exact ⟨by rw [List.length_append, List.length_map]; omega, rd_by_app hby g2, hca⟩
      · unfold ex_ask at e
        split at e
        · rename_i p ep
          obtain ⟨g1, g2, g3, g4⟩ := ex_good_some ep
          cases e
          exact ⟨by rw [List.length_append, List.length_map]; omega, rd_by_app hby (hst p g1), kp_by_put hca (hst p g1)⟩
        · cases e
theorem ct_D_extract {x : Int32} (hb : dp_R h b z im st ca sd ws ta f S) (hv : ∀ i, i < 4 → pl_V (im i) 117) (hst : kp_by st) (hca : kp_by ca) (hsd : sd_V sd)
    (k1 : ∀ i : Nat, i < 4 → x = nI i → im i ≠ [] → ∀ h' : pm_H, dp_R h' b z im st (ex_go (im i) st sd (im i).length 0 ca [] [0, 0, 0, 0]).2.1 sd (ex_go (im i) st sd (im i).length 0 ca [] [0, 0, 0, 0]).2.2.1 (ex_go (im i) st sd (im i).length 0 ca [] [0, 0, 0, 0]).2.2.2 f S → fr_ag b (b + 185) h h' → Q (some (.int (ex_ans (ex_go (im i) st sd (im i).length 0 ca [] [0, 0, 0, 0])))) h')
    (k0 : (∀ i : Nat, i < 4 → x = nI i → im i = []) → Q (some (.int (-1))) h) : pm_X xs 6 mD_extract [.ref b, .int x] h Q := by
  obtain ⟨c1, c2, c3, c4, c5, c6, c7, c8, c9, c10, -⟩ := id hb
  unfold pm_X
  (repeat (first | refine pm_W.ts rfl rfl ?_ | refine pm_W.tl rfl rfl ?_))
  refine pm_W.callV (d' := 1) rfl rfl rfl rfl (fr_ble rfl) c1 (fr_ble rfl) (ct_D_imageNumbered hb (fun i hi e hne => ?_) (fun hno => ?_))
  · have k1 := k1 i hi e hne
    have hvi := hv i hi
    have loop : ∀ (r k : Nat) (ca1 : dp_K) (ws1 ta1 : List Nat) (g : pm_H), k + r = (im i).length → ws1.length = pl_s (im i) k → rd_by ws1 → kp_by ca1 → dp_R g b z im st ca1 sd ws1 ta1 f S → fr_ag b (b + 185) h g → ex_go (im i) st sd r k ca1 ws1 ta1 = ex_go (im i) st sd (im i).length 0 ca [] [0, 0, 0, 0] → pm_W xs 6 mD_extract 41 [.ref b, .int x, .ref (b + 3 + 3 * i), .int (nI k)] [] g Q := by
      intro r
      induction r with
      | zero =>
        intro k ca1 ws1 ta1 g hk hl hw hc hg hag he
        obtain ⟨d1, d2, d3, d4, d5, d6, d7, d8, d9, d10, -⟩ := id hg
        have hp := d4 i hi
        obtain ⟨es, is, p1, p2, p3, p4, p5, p6, p7, p8⟩ := id hp
        obtain ⟨ys, w1, -⟩ := id d10
        (repeat (first | refine pm_W.ts rfl rfl ?_ | refine pm_W.tl rfl rfl ?_))
        refine pm_W.callV (d' := 0) rfl rfl rfl rfl (fr_ble rfl) p1 (fr_ble rfl) (ct_P_count hp ?_)
        refine pm_W.icmp rfl (fun c => ?_) (fun c => ?_)
        · (repeat (first | refine pm_W.ts rfl rfl ?_ | refine pm_W.tl rfl rfl ?_ | refine pm_W.get rfl rfl d1 rfl ?_))
          refine pm_W.callV (d' := 0) rfl rfl rfl rfl (fr_ble rfl) w1 (fr_ble rfl) (ct_B_count d10 ?_)
          rw [List.length_map]
          have he : (none, ca1, ws1, ta1) = ex_go (im i) st sd (im i).length 0 ca [] [0, 0, 0, 0] := he
          rw [← he] at k1
          exact pm_W.iret rfl rfl (k1 g hg hag)
        · have c : ¬ nI (im i).length ≤ nI k := c
          rw [nI_leI (by omega) (by omega)] at c
          omega
      | succ r ih =>
        intro k ca1 ws1 ta1 g hk hl hw hc hg hag he
        obtain ⟨d1, d2, d3, d4, d5, d6, d7, d8, d9, d10, -⟩ := id hg
        have hp := d4 i hi
        obtain ⟨es, is, p1, p2, p3, p4, p5, p6, p7, p8⟩ := id hp
        rw [show ex_go (im i) st sd (r + 1) k ca1 ws1 ta1 = match ex_one (im i) st sd ca1 ws1 ta1 k with | (some q, ta') => ex_go (im i) st sd r (k + 1) q.1 q.2 ta' | (none, ta') => (some k, ca1, [], ta') from rfl] at he
        (repeat (first | refine pm_W.ts rfl rfl ?_ | refine pm_W.tl rfl rfl ?_))
        refine pm_W.callV (d' := 0) rfl rfl rfl rfl (fr_ble rfl) p1 (fr_ble rfl) (ct_P_count hp ?_)
        refine pm_W.icmp rfl (fun c => ?_) (fun c => ?_)
        · have c : nI (im i).length ≤ nI k := c
          rw [nI_leI (by omega) (by omega)] at c
          omega
        · (repeat (first | refine pm_W.ts rfl rfl ?_ | refine pm_W.tl rfl rfl ?_))
          refine pm_W.callV rfl rfl rfl rfl (fr_ble rfl) d1 (fr_ble rfl) (ct_D_writePiece hg hi (by omega) hvi hl hw hst hc hsd (fun ca2 ws2 ta2 eo g2 hg2 hag2 => ?_) (fun ta2 eo g2 hg2 hag2 => ?_))
          · rw [eo] at he
            obtain ⟨q1, q2, q3⟩ := ex_one_inv (by omega) hvi hl hw hst hc hsd eo
            refine pm_W.ifz rfl (fun c => ?_) (fun c => absurd (show ¬ (1 : Int32) = 0 by decide) c)
            (iterate 1 (first | refine pm_W.ts rfl rfl ?_ | refine pm_W.tl rfl rfl ?_))
            refine pm_W.goto rfl ?_
            have := ih (k + 1) ca2 ws2 ta2 g2 (by omega) q1 q2 q3 hg2 (hag.tr hag2) he
            rw [← fr_inc] at this
            exact this
          · rw [eo] at he
            have he : (some k, ca1, [], ta2) = ex_go (im i) st sd (im i).length 0 ca [] [0, 0, 0, 0] := he
            rw [← he] at k1
            obtain ⟨e1, e2, e3, e4, e5, e6, e7, e8, e9, e10, -⟩ := id hg2
            obtain ⟨ys, w1, -⟩ := id e10
            refine pm_W.ifz rfl (fun c => absurd rfl c) (fun c => ?_)
            (repeat (first | refine pm_W.ts rfl rfl ?_ | refine pm_W.tl rfl rfl ?_ | refine pm_W.get rfl rfl e1 rfl ?_))
            refine pm_W.callV (d' := 0) rfl rfl rfl rfl (fr_ble rfl) w1 (fr_ble rfl) (ct_B_clear e10 (fun g3 hg3 hag3 => ?_))
            (repeat (first | refine pm_W.ts rfl rfl ?_ | refine pm_W.tl rfl rfl ?_))
            exact pm_W.iret rfl rfl (k1 g3 (hg2.uws (vs := []) hg3 hag3) ((hag.tr hag2).tr (hag3.wide (by omega) (by omega))))
    have zero : ∀ (r j : Nat) (g : pm_H), j + r = 4 → dp_R g b z im st ca sd [] (List.replicate j 0 ++ ta.drop j) f S → fr_ag b (b + 185) h g → pm_W xs 6 mD_extract 21 [.ref b, .int x, .ref (b + 3 + 3 * i), .int (nI j)] [] g Q := by
      intro r
      induction r with
      | zero =>
        intro j g hj hg hag
        (repeat (first | refine pm_W.ts rfl rfl ?_ | refine pm_W.tl rfl rfl ?_))
        refine pm_W.icmp rfl (fun c => ?_) (fun c => ?_)
        · (iterate 2 (first | refine pm_W.ts rfl rfl ?_ | refine pm_W.tl rfl rfl ?_))
          have ej : j = 4 := by omega
          subst ej
          have c12 : (List.replicate 4 0 ++ ta.drop 4).length = 4 := hg.2.2.2.2.2.2.2.2.2.2.2.1
          have et : List.replicate 4 0 ++ ta.drop 4 = [0, 0, 0, 0] := by
            rw [List.length_append, List.length_replicate] at c12
            rw [List.eq_nil_of_length_eq_zero (show (ta.drop 4).length = 0 by omega)]
            rfl
          rw [et] at hg
          exact loop (im i).length 0 ca [] [0, 0, 0, 0] g (by omega) rfl (fun x hx => by cases hx) hca hg hag rfl
        · have c : ¬ nI 4 ≤ nI j := c
          rw [nI_leI (by omega) (by omega)] at c
          omega
      | succ r ih =>
        intro j g hj hg hag
        obtain ⟨d1, d2, d3, d4, d5, d6, d7, d8, d9, d10, d11, d12, -⟩ := id hg
        (repeat (first | refine pm_W.ts rfl rfl ?_ | refine pm_W.tl rfl rfl ?_))
        refine pm_W.icmp rfl (fun c => ?_) (fun c => ?_)
        · have c : nI 4 ≤ nI j := c
          rw [nI_leI (by omega) (by omega)] at c
          omega
        · (repeat (first | refine pm_W.ts rfl rfl ?_ | refine pm_W.tl rfl rfl ?_ | refine pm_W.get rfl rfl d1 rfl ?_))
          refine pm_W.iast (x := nI 0) rfl d11 (pm_ix_ok (j := j) (by rw [List.length_map]; omega) (by rw [List.length_map]; omega)) ?_
          (iterate 1 (first | refine pm_W.ts rfl rfl ?_ | refine pm_W.tl rfl rfl ?_))
          refine pm_W.goto rfl ?_
          have es : (List.replicate j 0 ++ ta.drop j).set j 0 = List.replicate (j + 1) 0 ++ ta.drop (j + 1) := by
            have hl : ta.length = 4 := by
              rw [List.length_append, List.length_replicate, List.length_drop] at d12
              omega
            rw [List.set_append_right _ _ (by rw [List.length_replicate]; exact Nat.le_refl _), List.length_replicate, Nat.sub_self, List.drop_eq_getElem_cons (show j < ta.length by omega), List.set_cons_zero, List.replicate_succ', List.append_assoc]
            rfl
          have := ih (j + 1) _ (by omega) (hg.uta (tb := List.replicate (j + 1) 0 ++ ta.drop (j + 1)) (by rw [← es, List.map_set]; exact fr_set d11) (by rw [← es, List.length_set]; exact d12) (fr_agset (by omega) (by omega))) (hag.tr (fr_agset (by omega) (by omega)))
          rw [← fr_inc] at this
          exact this
    (repeat (first | refine pm_W.ts rfl rfl ?_ | refine pm_W.tl rfl rfl ?_))
    refine pm_W.ifnonnullR rfl ?_
    obtain ⟨ys, w1, -⟩ := id c10
    (repeat (first | refine pm_W.ts rfl rfl ?_ | refine pm_W.tl rfl rfl ?_ | refine pm_W.get rfl rfl c1 rfl ?_))
    refine pm_W.callV (d' := 0) rfl rfl rfl rfl (fr_ble rfl) w1 (fr_ble rfl) (ct_B_clear c10 (fun g hg hag => ?_))
    (iterate 2 (first | refine pm_W.ts rfl rfl ?_ | refine pm_W.tl rfl rfl ?_))
    exact zero 4 0 g (by omega) (by simpa using hb.uws (vs := []) hg hag) (hag.wide (by omega) (by omega))
  · (repeat (first | refine pm_W.ts rfl rfl ?_ | refine pm_W.tl rfl rfl ?_))
    refine pm_W.ifnonnullN rfl ?_
    (repeat (first | refine pm_W.ts rfl rfl ?_ | refine pm_W.tl rfl rfl ?_))
    exact pm_W.iret rfl rfl (k0 hno)
end EXTR2
