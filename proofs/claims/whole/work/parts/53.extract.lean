def fr_un (x : Int32) : Nat := x.toUInt32.toNat
theorem fr_un_nI (x : Int32) : nI (fr_un x) = x := by
  unfold fr_un
  rw [← fr_toI]
  rfl
theorem fr_un_map (l : List Int32) : (l.map fr_un).map nI = l := by
  rw [List.map_map]
  have : nI ∘ fr_un = id := by
    funext x
    exact fr_un_nI x
  rw [this, List.map_id]
def fr_find (p : Nat → Bool) : Nat → Option Nat
  | 0 => none
  | n + 1 => match fr_find p n with
    | some i => some i
    | none => if p n = true then some n else none
theorem fr_find_some {p : Nat → Bool} : ∀ {n i : Nat}, fr_find p n = some i → i < n ∧ p i = true ∧ ∀ j, j < i → p j = false := by
  intro n
  induction n with
  | zero => intro i h; cases h
  | succ n ih =>
    intro i h
    unfold fr_find at h
    cases hn : fr_find p n with
    | some j =>
      rw [hn] at h
      cases h
      obtain ⟨h1, h2, h3⟩ := ih hn
      exact ⟨by omega, h2, h3⟩
    | none =>
      rw [hn] at h
      have all : ∀ m, fr_find p m = none → ∀ j, j < m → p j = false := by
        intro m
        induction m with
        | zero => intro _ j hj; omega
        | succ m im =>
          intro hm j hj
          unfold fr_find at hm
          cases hm2 : fr_find p m with
          | some x => rw [hm2] at hm; cases hm
          | none =>
            rw [hm2] at hm
            by_cases e : j = m
            · subst e
              cases hp : p j with
              | false => rfl
              | true => simp [hp] at hm
            · exact im hm2 j (by omega)
      by_cases hp : p n = true
      · simp only [hp, if_true] at h
        cases h
        exact ⟨by omega, hp, all n hn⟩
      · simp only [hp] at h
        cases h
theorem fr_find_none {p : Nat → Bool} : ∀ {n : Nat}, fr_find p n = none → ∀ j, j < n → p j = false := by
  intro n
  induction n with
  | zero => intro _ j hj; omega
  | succ n ih =>
    intro h j hj
    unfold fr_find at h
    cases hn : fr_find p n with
    | some x => rw [hn] at h; cases h
    | none =>
      rw [hn] at h
      by_cases e : j = n
      · subst e
        cases hp : p j with
        | false => rfl
        | true => simp [hp] at h
      · exact ih hn j (by omega)
theorem fr_find_is {p : Nat → Bool} {n i : Nat} (h1 : i < n) (h2 : p i = true) (h3 : ∀ j, j < i → p j = false) : fr_find p n = some i := by
  cases hf : fr_find p n with
  | none => rw [fr_find_none hf i h1] at h2; cases h2
  | some k =>
    obtain ⟨g1, g2, g3⟩ := fr_find_some hf
    congr 1
    rcases Nat.lt_trichotomy k i with t | t | t
    · rw [h3 k t] at g2; cases g2
    · exact t
    · rw [g3 i t] at h2; cases h2
theorem fr_find_no {p : Nat → Bool} {n : Nat} (h : ∀ j, j < n → p j = false) : fr_find p n = none := by
  cases hf : fr_find p n with
  | none => rfl
  | some k =>
    obtain ⟨g1, g2, g3⟩ := fr_find_some hf
    rw [h k g1] at g2
    cases g2
def kp_by (L : dp_K) : Prop := ∀ i, i < L.length → bt_ok (kp_b L i)
def pl_V (ps : dp_P) (n : Nat) : Prop := ∀ i, i < ps.length → pl_s ps i < pl_e ps i ∧ pl_e ps i ≤ pl_s ps i + 32 ∧ pl_e ps i ≤ n
theorem pl_mono {ps : dp_P} {n : Nat} (hv : pl_V ps n) : ∀ (d j : Nat), j + d + 1 < ps.length → pl_e ps j ≤ pl_s ps (j + d + 1) := by
  intro d
  induction d with
  | zero => intro j hj; exact Nat.le_refl _
  | succ d ih =>
    intro j hj
    have h1 := ih j (by omega)
    have h2 := (hv (j + d + 1) (by omega)).1
    show pl_e ps j ≤ pl_e ps (j + d + 1)
    omega
theorem pl_mono' {ps : dp_P} {n j k : Nat} (hv : pl_V ps n) (hj : j < k) (hk : k < ps.length) : pl_e ps j ≤ pl_s ps k := by
  obtain ⟨d, rfl⟩ : ∃ d, k = j + d + 1 := ⟨k - j - 1, by omega⟩
  exact pl_mono hv d j hk
def ex_n (ps : dp_P) (k : Nat) : Nat := pl_e ps k - pl_s ps k
theorem ex_n_eq {ps : dp_P} {n k : Nat} (hv : pl_V ps n) (hk : k < ps.length) : pl_n ps k = nI (ex_n ps k) := fr_sub (Nat.le_of_lt (hv k hk).1)
def ex_kp (L : dp_K) (w : Int32) : Option Nat := fr_find (fun j => decide (kp_i L j = w)) L.length
def ex_good (L : dp_K) (w : Int32) (n : Nat) : Option Nat := match ex_kp L w with
  | some p => if (kp_b L p).length = n ∧ bt_id (kp_b L p) 0 n = w then some p else none
  | none => none
def ex_seed (q : List Int32 × dp_P) (w : Int32) (n : Nat) : Option Nat := fr_find (fun i => decide (pl_i q.2 i = w) && (decide (pl_n q.2 i = nI n) && decide (bt_id q.1 (nI (pl_s q.2 i)) n = w))) q.2.length
def ex_again (ps : dp_P) (k : Nat) : Option Nat := fr_find (fun j => decide (pl_i ps j = pl_i ps k) && decide (pl_n ps j = pl_n ps k)) k
def kp_put (room : Nat) (L : dp_K) (w : Int32) (bs : List Int32) : dp_K := match ex_kp L w with
  | some i => L.set i (w, bs)
  | none => kp_room room L ++ [(w, bs)]
def ta_inc (ta : List Nat) (i : Nat) : List Nat := ta.set i (ta.getD i 0 + 1)
def bt_sub (bs : List Int32) (s n : Nat) : List Int32 := (bs.drop s).take n
abbrev ex_T : Type := Option (dp_K × List Nat) × List Nat
def ex_ask (st ca : dp_K) (ws ta : List Nat) (w : Int32) (n : Nat) : ex_T := match ex_good st w n with
  | some p => (some (kp_put 6 ca w (kp_b st p), ws ++ (kp_b st p).map fr_un), ta_inc ta 0)
  | none => (none, ta_inc ta 0)
def ex_sd (sd : Nat → List Int32 × dp_P) (w : Int32) (n : Nat) : Nat → Option (List Int32)
  | 0 => none
  | r + 1 => match ex_seed (sd (1 - r)) w n with
    | some i => some (bt_sub (sd (1 - r)).1 (pl_s (sd (1 - r)).2 i) n)
    | none => ex_sd sd w n r
def ex_one (ps : dp_P) (st : dp_K) (sd : Nat → List Int32 × dp_P) (ca : dp_K) (ws ta : List Nat) (k : Nat) : ex_T := match ex_again ps k with
  | some j => (some (ca, ws ++ (ws.drop (pl_s ps j)).take (ex_n ps k)), ta_inc ta 3)
  | none => match ex_good ca (pl_i ps k) (ex_n ps k) with
    | some p => (some (ca, ws ++ (kp_b ca p).map fr_un), ta_inc ta 1)
    | none => match ex_sd sd (pl_i ps k) (ex_n ps k) 2 with
      | some bs => (some (ca, ws ++ bs.map fr_un), ta_inc ta 2)
      | none => ex_ask st ca ws ta (pl_i ps k) (ex_n ps k)
theorem bt_from_sub {bs : List Int32} {s n : Nat} (hb : bt_ok bs) (hs : s + n ≤ bs.length) (hl : bs.length ≤ 1000) : bt_from bs (nI s) n = bt_sub bs s n := by
  apply List.ext_getElem?
  intro i
  by_cases hi : i < n
  · simp only [bt_from, List.getElem?_map, List.getElem?_range hi, Option.map_some]
    rw [nI_add, bt_at_nat (by omega) hl, bt_sub, List.getElem?_take, if_pos hi, List.getElem?_drop, List.getElem?_eq_getElem (by omega)]
    have h1 : bs.getD (s + i) 0 = bs[s + i] := by simp [show s + i < bs.length by omega]
    rw [h1, hb _ (List.getElem_mem _)]
  · rw [List.getElem?_eq_none (by rw [bt_from_len]; omega), List.getElem?_eq_none (by rw [bt_sub, List.length_take, List.length_drop]; omega)]
section EXTR
variable {xs : List Int32} {h : pm_H} {b : Nat} {z : cz_N} {im : Nat → dp_P} {st ca : dp_K} {sd : Nat → List Int32 × dp_P} {ws ta : List Nat} {f : Bool} {S : tr_S} {Q : Option Value → pm_H → Prop}
theorem dp_tally {g : pm_H} {i : Nat} (hb : dp_R g b z im st ca sd ws ta f S) (hi : i < 4) : dp_R (g.1.set (b + 130) (.inl (false, (ta.map nI).set i (nI (ta.getD i 0 + 1)))), g.2) b z im st ca sd ws (ta_inc ta i) f S := by
  obtain ⟨c1, c2, c3, c4, c5, c6, c7, c8, c9, c10, c11, c12, -⟩ := id hb
  refine hb.uta ?_ (by unfold ta_inc; rw [List.length_set]; exact c12) (fr_agset (by omega) (by omega))
  unfold ta_inc
  rw [List.map_set]
  exact fr_set c11
theorem ct_D_writeAgain {i k : Nat} (hb : dp_R h b z im st ca sd ws ta f S) (hi : i < 4) (hk : k < (im i).length) (hv : pl_V (im i) 117) (hws : ws.length = pl_s (im i) k) (hby : rd_by ws)
    (k1 : ∀ j, ex_again (im i) k = some j → ∀ h' : pm_H, dp_R h' b z im st ca sd (ws ++ (ws.drop (pl_s (im i) j)).take (ex_n (im i) k)) (ta_inc ta 3) f S → fr_ag b (b + 185) h h' → Q (some (.int 1)) h')
    (k0 : ex_again (im i) k = none → Q (some (.int 0)) h) : pm_X xs 4 mD_writeAgain [.ref b, .ref (b + 3 + 3 * i), .int (nI k)] h Q := by
  obtain ⟨c1, c2, c3, c4, c5, c6, c7, c8, c9, c10, c11, c12, -⟩ := id hb
  have hp := c4 i hi
  obtain ⟨es, is, p1, p2, p3, p4, p5, p6, p7, p8⟩ := id hp
  have hvk := hv k hk
  unfold pm_X
  (repeat (first | refine pm_W.ts rfl rfl ?_ | refine pm_W.tl rfl rfl ?_))
  refine pm_W.callV (d' := 1) rfl rfl rfl rfl (fr_ble rfl) p1 (fr_ble rfl) (ct_P_idOf hp hk ?_)
  (repeat (first | refine pm_W.ts rfl rfl ?_ | refine pm_W.tl rfl rfl ?_))
  refine pm_W.callV (d' := 2) rfl rfl rfl rfl (fr_ble rfl) p1 (fr_ble rfl) (ct_P_lengthOf hp (by omega) ?_)
  refine pm_W.callV rfl rfl rfl rfl (fr_ble rfl) p1 (fr_ble rfl) (ct_P_firstLike (n := pl_n (im i) k) hp (fun j hj e hno => ?_) (fun hno => absurd ⟨rfl, rfl⟩ (hno k hk)))
  (repeat (first | refine pm_W.ts rfl rfl ?_ | refine pm_W.tl rfl rfl ?_))
  refine pm_W.icmp rfl (fun c => absurd c (fr_not1 (by omega))) (fun c => ?_)
  (repeat (first | refine pm_W.ts rfl rfl ?_ | refine pm_W.tl rfl rfl ?_))
  refine pm_W.icmp rfl (fun d => ?_) (fun d => ?_)
  · have d : nI j < nI k := d
    rw [nI_ltI (by omega) (by omega)] at d
    have hag0 : ex_again (im i) k = some j := fr_find_is d (by rw [decide_eq_true e.1, decide_eq_true e.2]; rfl) (fun t ht => by
      have := hno t ht
      cases h1 : decide (pl_i (im i) t = pl_i (im i) k) with
      | false => rfl
      | true => cases h2 : decide (pl_n (im i) t = pl_n (im i) k) with
        | false => rfl
        | true => exact absurd ⟨of_decide_eq_true h1, of_decide_eq_true h2⟩ this)
    have hvj := hv j hj
    have hmono := pl_mono' hv d hk
    have en : ex_n (im i) j = ex_n (im i) k := by
      have h1 := ex_n_eq hv hj
      have h2 := ex_n_eq hv hk
      have := e.2
      rw [h1, h2, nI_eq (by unfold ex_n; omega) (by unfold ex_n; omega)] at this
      exact this
    have ek : ex_n (im i) k = pl_e (im i) k - pl_s (im i) k := rfl
    have ej : ex_n (im i) j = pl_e (im i) j - pl_s (im i) j := rfl
    obtain ⟨ys, w1, w2, w3, w4, w5, w6⟩ := id c10
    rw [List.length_map] at w5
    (repeat (first | refine pm_W.ts rfl rfl ?_ | refine pm_W.tl rfl rfl ?_ | refine pm_W.get rfl rfl c1 rfl ?_))
    refine pm_W.callV (d' := 1) rfl rfl rfl rfl (fr_ble rfl) p1 (fr_ble rfl) (ct_P_startOf hp (by omega) ?_)
    (repeat (first | refine pm_W.ts rfl rfl ?_ | refine pm_W.tl rfl rfl ?_))
    refine pm_W.callV (d' := 2) rfl rfl rfl rfl (fr_ble rfl) p1 (fr_ble rfl) (ct_P_lengthOf hp (by omega) ?_)
    rw [show nI (pl_e (im i) j) - nI (pl_s (im i) j) = nI (ex_n (im i) k) from by rw [← en]; exact ex_n_eq hv hj]
    refine pm_W.callV (d' := 2) rfl rfl rfl rfl (fr_ble rfl) w1 (fr_ble rfl) (ct_B_addSelf c10 (by rw [List.length_map]; omega) (by rw [List.length_map]; omega) (fun g hg hag => ?_))
    rw [bt_from_sub (fun x hx => by
      obtain ⟨y, hy, rfl⟩ := List.mem_map.mp hx
      exact fr_255 y (hby y hy)) (by rw [List.length_map]; omega) (by rw [List.length_map]; omega), bt_sub, ← List.map_drop, ← List.map_take, ← List.map_append] at hg
    have hb2 := hb.uws hg hag
    have c1' := hag.at (by omega) c1
    have c11' := hag.at (by omega) c11
    (repeat (first | refine pm_W.ts rfl rfl ?_ | refine pm_W.tl rfl rfl ?_ | refine pm_W.get rfl rfl c1' rfl ?_))
    refine pm_W.iald (j := nI 3) rfl c11' (pm_ix_ok (j := 3) (by rw [List.length_map]; omega) (by rw [List.length_map]; omega)) ?_
    rw [fr_mapD]
    (iterate 2 (first | refine pm_W.ts rfl rfl ?_ | refine pm_W.tl rfl rfl ?_))
    refine pm_W.iast (j := nI 3) (x := nI (ta.getD 3 0) + 1) rfl c11' (pm_ix_ok (j := 3) (by rw [List.length_map]; omega) (by rw [List.length_map]; omega)) ?_
    rw [nI_1]
    (repeat (first | refine pm_W.ts rfl rfl ?_ | refine pm_W.tl rfl rfl ?_))
    exact pm_W.iret rfl rfl (k1 j hag0 _ (dp_tally hb2 (by omega)) ((hag.wide (by omega) (by omega)).tr (fr_agset (by omega) (by omega))))
  · have d : ¬ nI j < nI k := d
    rw [nI_ltI (by omega) (by omega)] at d
    (repeat (first | refine pm_W.ts rfl rfl ?_ | refine pm_W.tl rfl rfl ?_))
    refine pm_W.iret rfl rfl (k0 (fr_find_no (fun t ht => ?_)))
    have := hno t (by omega)
    cases h1 : decide (pl_i (im i) t = pl_i (im i) k) with
    | false => rfl
    | true => cases h2 : decide (pl_n (im i) t = pl_n (im i) k) with
      | false => rfl
      | true => exact absurd ⟨of_decide_eq_true h1, of_decide_eq_true h2⟩ this
theorem ex_good_is {L : dp_K} {w : Int32} {n p : Nat} (h1 : p < L.length) (h2 : kp_i L p = w) (h3 : ∀ j, j < p → kp_i L j ≠ w) (h4 : (kp_b L p).length = n) (h5 : bt_id (kp_b L p) 0 n = w) : ex_good L w n = some p := by
  have e : ex_kp L w = some p := fr_find_is h1 (decide_eq_true h2) (fun j hj => decide_eq_false (h3 j hj))
  unfold ex_good
  rw [e]
  show (if _ then _ else _) = _
  rw [if_pos ⟨h4, h5⟩]
theorem ex_good_no {L : dp_K} {w : Int32} {n : Nat} (h : ∀ i, i < L.length → kp_i L i = w → (∀ j, j < i → kp_i L j ≠ w) → ¬ ((kp_b L i).length = n ∧ bt_id (kp_b L i) 0 n = w)) : ex_good L w n = none := by
  unfold ex_good
  cases e : ex_kp L w with
  | none => rfl
  | some p =>
    obtain ⟨g1, g2, g3⟩ := fr_find_some e
    show (if _ then _ else _) = _
    rw [if_neg (h p g1 (of_decide_eq_true g2) (fun j hj => of_decide_eq_false (g3 j hj)))]
theorem kp_put_is {room : Nat} {L : dp_K} {w : Int32} {bs : List Int32} {p : Nat} (h1 : p < L.length) (h2 : kp_i L p = w) (h3 : ∀ j, j < p → kp_i L j ≠ w) : kp_put room L w bs = L.set p (w, bs) := by
  have e : ex_kp L w = some p := fr_find_is h1 (decide_eq_true h2) (fun j hj => decide_eq_false (h3 j hj))
  unfold kp_put
  rw [e]
theorem kp_put_no {room : Nat} {L : dp_K} {w : Int32} {bs : List Int32} (h : ∀ j, j < L.length → kp_i L j ≠ w) : kp_put room L w bs = kp_room room L ++ [(w, bs)] := by
  have e : ex_kp L w = none := fr_find_no (fun j hj => decide_eq_false (h j hj))
  unfold kp_put
  rw [e]
theorem ct_D_writeCached {w : Int32} {n : Nat} (hb : dp_R h b z im st ca sd ws ta f S) (hby : kp_by ca) (hn : n ≤ 32) (hl : ws.length + n ≤ 120)
    (k1 : ∀ p, ex_good ca w n = some p → ∀ h' : pm_H, dp_R h' b z im st ca sd (ws ++ (kp_b ca p).map fr_un) (ta_inc ta 1) f S → fr_ag b (b + 185) h h' → Q (some (.int 1)) h')
    (k0 : ex_good ca w n = none → Q (some (.int 0)) h) : pm_X xs 4 mD_writeCached [.ref b, .int w, .int (nI n)] h Q := by
  obtain ⟨c1, c2, c3, c4, c5, c6, c7, c8, c9, c10, c11, c12, -⟩ := id hb
  obtain ⟨ids, rows, s1, -⟩ := id c6
  unfold pm_X
  (repeat (first | refine pm_W.ts rfl rfl ?_ | refine pm_W.tl rfl rfl ?_ | refine pm_W.get rfl rfl c1 rfl ?_))
  refine pm_W.callV rfl rfl rfl rfl (fr_ble rfl) s1 (fr_ble rfl) (ct_K_goodBytes c6 (by omega) (fun p r h1 h2 h3 h4 h5 h6 h7 h8 => ?_) (fun hno => ?_))
  · (repeat (first | refine pm_W.ts rfl rfl ?_ | refine pm_W.tl rfl rfl ?_))
    refine pm_W.ifnonnullR rfl ?_
    obtain ⟨ys, w1, -⟩ := id c10
    (repeat (first | refine pm_W.ts rfl rfl ?_ | refine pm_W.tl rfl rfl ?_ | refine pm_W.get rfl rfl c1 rfl ?_))
    refine pm_W.callV (d' := 2) rfl rfl rfl rfl (fr_ble rfl) w1 (fr_ble rfl) (ct_B_addFrom c10 h8 (by omega) (by rw [List.length_map]; omega) (fun g hg hag => ?_))
    rw [show bt_from (kp_b ca p) (Int32.ofInt 0) n = kp_b ca p from by rw [← h4]; exact bt_from_all (hby p h1) (by omega), ← fr_un_map (kp_b ca p), ← List.map_append] at hg
    have hb2 := hb.uws hg hag
    have c1' := hag.at (by omega) c1
    have c11' := hag.at (by omega) c11
    (repeat (first | refine pm_W.ts rfl rfl ?_ | refine pm_W.tl rfl rfl ?_ | refine pm_W.get rfl rfl c1' rfl ?_))
    refine pm_W.iald (j := nI 1) rfl c11' (pm_ix_ok (j := 1) (by rw [List.length_map]; omega) (by rw [List.length_map]; omega)) ?_
    rw [fr_mapD]
    (iterate 2 (first | refine pm_W.ts rfl rfl ?_ | refine pm_W.tl rfl rfl ?_))
    refine pm_W.iast (j := nI 1) (x := nI (ta.getD 1 0) + 1) rfl c11' (pm_ix_ok (j := 1) (by rw [List.length_map]; omega) (by rw [List.length_map]; omega)) ?_
    rw [nI_1]
    (repeat (first | refine pm_W.ts rfl rfl ?_ | refine pm_W.tl rfl rfl ?_))
    exact pm_W.iret rfl rfl (k1 p (ex_good_is h1 h2 h3 h4 h5) _ (dp_tally hb2 (by omega)) ((hag.wide (by omega) (by omega)).tr (fr_agset (by omega) (by omega))))
  · (repeat (first | refine pm_W.ts rfl rfl ?_ | refine pm_W.tl rfl rfl ?_))
    refine pm_W.ifnonnullN rfl ?_
    (repeat (first | refine pm_W.ts rfl rfl ?_ | refine pm_W.tl rfl rfl ?_))
    exact pm_W.iret rfl rfl (k0 (ex_good_no hno))
theorem ct_D_writeAsked {w : Int32} {n : Nat} (hb : dp_R h b z im st ca sd ws ta f S) (hby : kp_by st) (hn : n ≤ 32) (hl : ws.length + n ≤ 120)
    (k1 : ∀ p, ex_good st w n = some p → ∀ h' : pm_H, dp_R h' b z im st (kp_put 6 ca w (kp_b st p)) sd (ws ++ (kp_b st p).map fr_un) (ta_inc ta 0) f S → fr_ag b (b + 185) h h' → Q (some (.int 1)) h')
    (k0 : ex_good st w n = none → ∀ h' : pm_H, dp_R h' b z im st ca sd ws (ta_inc ta 0) f S → fr_ag b (b + 185) h h' → Q (some (.int 0)) h') : pm_X xs 4 mD_writeAsked [.ref b, .int w, .int (nI n)] h Q := by
  obtain ⟨c1, c2, c3, c4, c5, c6, c7, c8, c9, c10, c11, c12, -⟩ := id hb
  unfold pm_X
  (repeat (first | refine pm_W.ts rfl rfl ?_ | refine pm_W.tl rfl rfl ?_ | refine pm_W.get rfl rfl c1 rfl ?_))
  refine pm_W.iald (j := nI 0) rfl c11 (pm_ix_ok (j := 0) (by rw [List.length_map]; omega) (by rw [List.length_map]; omega)) ?_
  rw [fr_mapD]
  (iterate 2 (first | refine pm_W.ts rfl rfl ?_ | refine pm_W.tl rfl rfl ?_))
  refine pm_W.iast (j := nI 0) (x := nI (ta.getD 0 0) + 1) rfl c11 (pm_ix_ok (j := 0) (by rw [List.length_map]; omega) (by rw [List.length_map]; omega)) ?_
  rw [nI_1]
  have hb1 := dp_tally (i := 0) hb (by omega)
  have hag0 : fr_ag b (b + 185) h (h.1.set (b + 130) (.inl (false, (ta.map nI).set 0 (nI (ta.getD 0 0 + 1)))), h.2) := fr_agset (by omega) (by omega)
  generalize hg1 : ((h.1.set (b + 130) (.inl (false, (ta.map nI).set 0 (nI (ta.getD 0 0 + 1)))), h.2) : pm_H) = g1 at hb1 hag0 ⊢
  obtain ⟨d1, d2, d3, d4, d5, d6, d7, d8, d9, d10, -⟩ := id hb1
  obtain ⟨ids, rows, s1, -⟩ := id d5
  (repeat (first | refine pm_W.ts rfl rfl ?_ | refine pm_W.tl rfl rfl ?_ | refine pm_W.get rfl rfl d1 rfl ?_))
  refine pm_W.callV rfl rfl rfl rfl (fr_ble rfl) s1 (fr_ble rfl) (ct_K_goodBytes d5 (by omega) (fun p r h1 h2 h3 h4 h5 h6 h7 h8 => ?_) (fun hno => ?_))
  · (repeat (first | refine pm_W.ts rfl rfl ?_ | refine pm_W.tl rfl rfl ?_))
    refine pm_W.ifnonnullR rfl ?_
    obtain ⟨ys, w1, -⟩ := id d10
    (repeat (first | refine pm_W.ts rfl rfl ?_ | refine pm_W.tl rfl rfl ?_ | refine pm_W.get rfl rfl d1 rfl ?_))
    refine pm_W.callV (d' := 2) rfl rfl rfl rfl (fr_ble rfl) w1 (fr_ble rfl) (ct_B_addFrom d10 h8 (by omega) (by rw [List.length_map]; omega) (fun g hg hag => ?_))
    have eall : bt_from (kp_b st p) (Int32.ofInt 0) n = kp_b st p := by rw [← h4]; exact bt_from_all (hby p h1) (by omega)
    rw [eall, ← fr_un_map (kp_b st p), ← List.map_append] at hg
    have hb2 := hb1.uws hg hag
    obtain ⟨e1, e2, e3, e4, e5, e6, -⟩ := id hb2
    obtain ⟨ids2, rows2, t1, -⟩ := id e6
    have h8' := h8.ag hag (by omega)
    (repeat (first | refine pm_W.ts rfl rfl ?_ | refine pm_W.tl rfl rfl ?_ | refine pm_W.get rfl rfl e1 rfl ?_))
    refine pm_W.callV (d' := 3) rfl rfl rfl rfl (fr_ble rfl) t1 (fr_ble rfl) (ct_K_put e6 (by omega) h8' (by omega) hn (fun q q1 q2 q3 g2 hg2 hag2 => ?_) (fun hno g2 hg2 hag2 => ?_))
    · rw [eall, ← kp_put_is (room := 6) q1 q2 q3] at hg2
      (repeat (first | refine pm_W.ts rfl rfl ?_ | refine pm_W.tl rfl rfl ?_))
      exact pm_W.iret rfl rfl (k1 p (ex_good_is h1 h2 h3 h4 h5) g2 (hb2.uca hg2 (hag2.wide (by omega) (by omega))) ((hag0.tr (hag.wide (by omega) (by omega))).tr (hag2.wide (by omega) (by omega))))
    · rw [eall, ← kp_put_no hno] at hg2
      (repeat (first | refine pm_W.ts rfl rfl ?_ | refine pm_W.tl rfl rfl ?_))
      exact pm_W.iret rfl rfl (k1 p (ex_good_is h1 h2 h3 h4 h5) g2 (hb2.uca hg2 (hag2.wide (by omega) (by omega))) ((hag0.tr (hag.wide (by omega) (by omega))).tr (hag2.wide (by omega) (by omega))))
  · (repeat (first | refine pm_W.ts rfl rfl ?_ | refine pm_W.tl rfl rfl ?_))
    refine pm_W.ifnonnullN rfl ?_
    (repeat (first | refine pm_W.ts rfl rfl ?_ | refine pm_W.tl rfl rfl ?_))
    exact pm_W.iret rfl rfl (k0 (ex_good_no hno) g1 hb1 hag0)
end EXTR
