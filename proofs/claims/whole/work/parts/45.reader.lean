def rd_R (h : pm_H) (r o t p : Nat) (f : Bool) : Prop := h.1[r]? = some (.inr (.inr (kR, [.ref o, .ref t, .int (nI p), .int (fr_b f)])))
def rd_w (ws : List Nat) (p : Nat) : Nat := ws.getD p 0
def rd_ok (ws : List Nat) (p lo hi : Nat) : Prop := p < ws.length ∧ lo ≤ rd_w ws p ∧ rd_w ws p ≤ hi
def rd_by (ws : List Nat) : Prop := ∀ x ∈ ws, x < 256
theorem rd_lt {ws : List Nat} (hw : rd_by ws) (p : Nat) : rd_w ws p < 256 := by
  unfold rd_w
  rw [List.getD_eq_getElem?_getD]
  cases he : ws[p]? with
  | none => show 0 < 256; omega
  | some x => exact hw x (List.mem_of_getElem? he)
theorem rd_at {ws : List Nat} {p : Nat} (hp : p < 2 ^ 31) (hl : ws.length ≤ 1000) : bt_at (ws.map nI) (nI p) = nI (rd_w ws p) := by
  rw [bt_at_D hp (by rw [List.length_map]; exact hl), fr_mapD]
  rfl
theorem rd_has {ws : List Nat} {p : Nat} (hp : p < 2 ^ 31) (hl : ws.length ≤ 1000) : bt_has (ws.map nI) (nI p) = decide (p < ws.length) := by
  unfold bt_has
  rw [List.length_map]
  by_cases h : p < ws.length
  · rw [decide_eq_true h, decide_eq_true ⟨nI_pos' hp, nI_lt h (by omega)⟩]
  · rw [decide_eq_false h, decide_eq_false (fun z => h ((nI_ltI hp (by omega)).mp z.2))]
theorem rd_out {ws : List Nat} {p : Nat} (h : ws.length ≤ p) : rd_w ws p = 0 := by
  unfold rd_w
  rw [List.getD_eq_getElem?_getD, List.getElem?_eq_none h]
  rfl
section READER
variable {xs : List Int32} {h : pm_H} {r o ro t p : Nat} {ws : List Nat} {S : tr_S} {Q : Option Value → pm_H → Prop}
theorem ct_R_take {lo hi : Nat} {f : Bool} (hr : rd_R h r o t p f) (ho : bt_R h o ro (ws.map nI)) (hw : rd_by ws) (hp : p < 100000) (hlo : lo < 100000) (hhi : hi < 100000)
    (k1 : f = false → rd_ok ws p lo hi → ∀ h' : pm_H, rd_R h' r o t (p + 1) false → fr_ag r (r + 1) h h' → Q (some (.int (nI (rd_w ws p)))) h')
    (k0 : ¬ (f = false ∧ rd_ok ws p lo hi) → ∀ h' : pm_H, rd_R h' r o t p true → fr_ag r (r + 1) h h' → Q (some (.int (-1))) h') : pm_X xs 2 mR_take [.ref r, .int (nI lo), .int (nI hi)] h Q := by
  have hr' : h.1[r]? = some (.inr (.inr (kR, [Value.ref o, .ref t, .int (nI p), .int (fr_b f)]))) := hr
  obtain ⟨ys, o1, o2, o3, o4, o5, o6⟩ := id ho
  rw [List.length_map] at o5
  have hwl := rd_lt hw p
  have bad : ¬ (f = false ∧ rd_ok ws p lo hi) → pm_W xs 2 mR_take 43 [.ref r, .int (nI lo), .int (nI hi), .int (nI (rd_w ws p))] [] h Q := by
    intro c
    (repeat (first | refine pm_W.ts rfl rfl ?_ | refine pm_W.tl rfl rfl ?_))
    refine pm_W.put (v := .int (fr_b true)) rfl rfl hr' (fr_ble rfl) rfl (Or.inl rfl) ?_
    (repeat (first | refine pm_W.ts rfl rfl ?_ | refine pm_W.tl rfl rfl ?_))
    exact pm_W.iret rfl rfl (k0 c _ (fr_set hr') (fr_agset (by omega) (by omega)))
  unfold pm_X
  (repeat (first | refine pm_W.ts rfl rfl ?_ | refine pm_W.tl rfl rfl ?_ | refine pm_W.get rfl rfl hr' rfl ?_))
  refine pm_W.callV rfl rfl rfl rfl (fr_ble rfl) o1 (fr_ble rfl) (ct_B_at ho ?_)
  rw [rd_at (by omega) (by omega)]
  (repeat (first | refine pm_W.ts rfl rfl ?_ | refine pm_W.tl rfl rfl ?_ | refine pm_W.get rfl rfl hr' rfl ?_))
  refine pm_W.ifz rfl (fun c => ?_) (fun c => ?_)
  · have c : ¬ fr_b f = 0 := c
    have c := fr_b1 c
    exact bad (fun z => by rw [c] at z; cases z.1)
  · have c : ¬ ¬ fr_b f = 0 := c
    have c := fr_b0 (Classical.not_not.mp c)
    subst c
    (repeat (first | refine pm_W.ts rfl rfl ?_ | refine pm_W.tl rfl rfl ?_ | refine pm_W.get rfl rfl hr' rfl ?_))
    refine pm_W.callV (d' := 0) rfl rfl rfl rfl (fr_ble rfl) o1 (fr_ble rfl) (ct_B_has ho ?_)
    rw [rd_has (by omega) (by omega)]
    refine pm_W.ifz rfl (fun c2 => ?_) (fun c2 => ?_)
    · have c2 := of_decide_eq_false (fr_b0 c2)
      exact bad (fun z => c2 z.2.1)
    · have c2 := of_decide_eq_true (fr_b1 c2)
      (repeat (first | refine pm_W.ts rfl rfl ?_ | refine pm_W.tl rfl rfl ?_))
      refine pm_W.icmp rfl (fun c3 => ?_) (fun c3 => ?_)
      · have c3 : nI (rd_w ws p) < nI lo := c3
        rw [nI_ltI (by omega) (by omega)] at c3
        exact bad (fun z => by have := z.2.2.1; omega)
      · have c3 : ¬ nI (rd_w ws p) < nI lo := c3
        rw [nI_ltI (by omega) (by omega)] at c3
        (repeat (first | refine pm_W.ts rfl rfl ?_ | refine pm_W.tl rfl rfl ?_))
        refine pm_W.icmp rfl (fun c4 => ?_) (fun c4 => ?_)
        · have c4 : nI (rd_w ws p) ≤ nI hi := c4
          rw [nI_leI (by omega) (by omega)] at c4
          (repeat (first | refine pm_W.ts rfl rfl ?_ | refine pm_W.tl rfl rfl ?_ | refine pm_W.get rfl rfl hr' rfl ?_))
          refine pm_W.put (v := .int (nI p + 1)) rfl rfl hr' (fr_ble rfl) rfl (Or.inl rfl) ?_
          (repeat (first | refine pm_W.ts rfl rfl ?_ | refine pm_W.tl rfl rfl ?_))
          refine pm_W.iret rfl rfl (k1 rfl ⟨c2, by omega, c4⟩ _ ?_ (fr_agset (by omega) (by omega)))
          show (h.1.set r (.inr (.inr (kR, [Value.ref o, .ref t, .int (nI p + 1), .int (fr_b false)]))))[r]? = some (.inr (.inr (kR, [Value.ref o, .ref t, .int (nI (p + 1)), .int (fr_b false)])))
          rw [← nI_1]
          exact fr_set hr'
        · have c4 : ¬ nI (rd_w ws p) ≤ nI hi := c4
          rw [nI_leI (by omega) (by omega)] at c4
          exact bad (fun z => by have := z.2.2.2; omega)
def rd_mg (S : tr_S) (d : Nat) : Prop := tr_cnt (tr_u S) 10 < 10 ∧ tr_climb S 6 (tr_P S d) < 6
def rd_ie (ws : List Nat) (p : Nat) : Prop := rd_w ws p = 1 ∨ rd_w ws p = 2
theorem tr_climb_le {S : tr_S} : ∀ (f : Nat) (q : Option Nat), tr_climb S f q ≤ f := by
  intro f
  induction f with
  | zero => intro q; exact Nat.le_refl _
  | succ f ih =>
    intro q
    cases q with
    | none => exact Nat.zero_le _
    | some q => have := ih (tr_P S q); show _ + 1 ≤ f + 1; omega
theorem ct_R_takeKind {d : Nat} (hr : rd_R h r o t p false) (ho : bt_R h o ro (ws.map nI)) (hw : rd_by ws) (hp : p < 10000) (ht : tr_R h t S) (hd : d ≤ 10)
    (k1 : rd_mg S d → rd_ie ws p → p < ws.length → ∀ h' : pm_H, rd_R h' r o t (p + 1) false → fr_ag r (r + 1) h h' → Q (some (.int (nI (rd_w ws p)))) h')
    (k9 : p < ws.length → rd_w ws p = 9 → ∀ h' : pm_H, rd_R h' r o t (p + 1) false → fr_ag r (r + 1) h h' → Q (some (.int (nI 9))) h')
    (k0 : ¬ (rd_mg S d ∧ rd_ie ws p) → ¬ (p < ws.length ∧ rd_w ws p = 9) → ∀ h' : pm_H, rd_R h' r o t p true → fr_ag r (r + 1) h h' → Q (some (.int (-1))) h') : pm_X xs 3 mR_takeKind [.ref r, .int (nI d)] h Q := by
  have hr' : h.1[r]? = some (.inr (.inr (kR, [Value.ref o, .ref t, .int (nI p), .int (fr_b false)]))) := hr
  obtain ⟨ys, o1, o2, o3, o4, o5, o6⟩ := id ho
  rw [List.length_map] at o5
  obtain ⟨t1, -⟩ := id ht
  have hwl := rd_lt hw p
  have hcnt := tr_cnt_le (f := tr_u S) 10
  have hcl := tr_climb_le (S := S) 6 (tr_P S d)
  have nine : ∀ v2 v3 : Value, ¬ (rd_mg S d ∧ rd_ie ws p) → pm_W xs 3 mR_takeKind 84 [.ref r, .int (nI d), v2, v3] [] h Q := by
    intro v2 v3 hno
    (repeat (first | refine pm_W.ts rfl rfl ?_ | refine pm_W.tl rfl rfl ?_))
    refine pm_W.callV rfl rfl rfl rfl (fr_ble rfl) hr' (fr_ble rfl) (ct_R_take (lo := 9) (hi := 9) hr ho hw (by omega) (by omega) (by omega) (fun _ hk h' hr2 hag => ?_) (fun hk h' hr2 hag => ?_))
    · have e : rd_w ws p = 9 := by have := hk.2.1; have := hk.2.2; omega
      rw [e]
      exact pm_W.iret rfl rfl (k9 hk.1 e h' hr2 hag)
    · exact pm_W.iret rfl rfl (k0 hno (fun z => hk ⟨rfl, z.1, by omega, by omega⟩) h' hr2 hag)
  have entry : ∀ v2 v3 : Value, rd_mg S d → rd_ie ws p → pm_W xs 3 mR_takeKind 75 [.ref r, .int (nI d), v2, v3] [] h Q := by
    intro v2 v3 hm hi
    have hlt : p < ws.length := by
      apply Nat.lt_of_not_le
      intro z
      have := rd_out z
      rcases hi with q | q <;> omega
    (repeat (first | refine pm_W.ts rfl rfl ?_ | refine pm_W.tl rfl rfl ?_))
    refine pm_W.callV rfl rfl rfl rfl (fr_ble rfl) hr' (fr_ble rfl) (ct_R_take (lo := 1) (hi := 2) hr ho hw (by omega) (by omega) (by omega) (fun _ hk h' hr2 hag => ?_) (fun hk h' hr2 hag => ?_))
    · refine pm_W.goto rfl ?_
      exact pm_W.iret rfl rfl (k1 hm hi hlt h' hr2 hag)
    · exact absurd ⟨rfl, hlt, by rcases hi with q | q <;> omega, by rcases hi with q | q <;> omega⟩ hk
  have mid : ∀ (b : Bool), (b = true ↔ rd_mg S d) → pm_W xs 3 mR_takeKind 31 [.ref r, .int (nI d), .int (fr_b b), pm_none] [] h Q := by
    intro b hbm
    have last : ∀ (e : Bool), (e = true ↔ rd_ie ws p) → pm_W xs 3 mR_takeKind 67 [.ref r, .int (nI d), .int (fr_b b), .int (fr_b e)] [] h Q := by
      intro e hei
      (repeat (first | refine pm_W.ts rfl rfl ?_ | refine pm_W.tl rfl rfl ?_))
      refine pm_W.ifz rfl (fun c => ?_) (fun c => ?_)
      · have c := fr_b0 c
        exact nine _ _ (fun z => by rw [hbm.mpr z.1] at c; cases c)
      · have c := fr_b1 c
        (repeat (first | refine pm_W.ts rfl rfl ?_ | refine pm_W.tl rfl rfl ?_))
        refine pm_W.ifz rfl (fun c2 => ?_) (fun c2 => ?_)
        · have c2 := fr_b0 c2
          exact nine _ _ (fun z => by rw [hei.mpr z.2] at c2; cases c2)
        · have c2 := fr_b1 c2
          exact entry _ _ (hbm.mp c) (hei.mp c2)
    (repeat (first | refine pm_W.ts rfl rfl ?_ | refine pm_W.tl rfl rfl ?_ | refine pm_W.get rfl rfl hr' rfl ?_))
    refine pm_W.callV (d' := 1) rfl rfl rfl rfl (fr_ble rfl) o1 (fr_ble rfl) (ct_B_at ho ?_)
    rw [rd_at (by omega) (by omega)]
    (repeat (first | refine pm_W.ts rfl rfl ?_ | refine pm_W.tl rfl rfl ?_))
    refine pm_W.icmp rfl (fun c => ?_) (fun c => ?_)
    · have c : nI (rd_w ws p) = nI 1 := c
      rw [nI_eq (by omega) (by omega)] at c
      (iterate 1 (first | refine pm_W.ts rfl rfl ?_ | refine pm_W.tl rfl rfl ?_))
      refine pm_W.goto rfl ?_
      (iterate 1 (first | refine pm_W.ts rfl rfl ?_ | refine pm_W.tl rfl rfl ?_))
      exact last true ⟨fun _ => Or.inl c, fun _ => rfl⟩
    · have c : ¬ nI (rd_w ws p) = nI 1 := c
      rw [nI_eq (by omega) (by omega)] at c
      (repeat (first | refine pm_W.ts rfl rfl ?_ | refine pm_W.tl rfl rfl ?_ | refine pm_W.get rfl rfl hr' rfl ?_))
      refine pm_W.callV (d' := 1) rfl rfl rfl rfl (fr_ble rfl) o1 (fr_ble rfl) (ct_B_at ho ?_)
      rw [rd_at (by omega) (by omega)]
      (repeat (first | refine pm_W.ts rfl rfl ?_ | refine pm_W.tl rfl rfl ?_))
      refine pm_W.icmp rfl (fun c2 => ?_) (fun c2 => ?_)
      · have c2 : ¬ nI (rd_w ws p) = nI 2 := c2
        rw [nI_eq (by omega) (by omega)] at c2
        (iterate 2 (first | refine pm_W.ts rfl rfl ?_ | refine pm_W.tl rfl rfl ?_))
        exact last false ⟨(fun z => by cases z), fun z => by rcases z with q | q <;> omega⟩
      · have c2 : ¬ ¬ nI (rd_w ws p) = nI 2 := c2
        have c2 := Classical.not_not.mp c2
        rw [nI_eq (by omega) (by omega)] at c2
        (iterate 1 (first | refine pm_W.ts rfl rfl ?_ | refine pm_W.tl rfl rfl ?_))
        refine pm_W.goto rfl ?_
        (iterate 1 (first | refine pm_W.ts rfl rfl ?_ | refine pm_W.tl rfl rfl ?_))
        exact last true ⟨fun _ => Or.inr c2, fun _ => rfl⟩
  unfold pm_X
  (repeat (first | refine pm_W.ts rfl rfl ?_ | refine pm_W.tl rfl rfl ?_ | refine pm_W.get rfl rfl hr' rfl ?_))
  refine pm_W.callV (d' := 0) rfl rfl rfl rfl (fr_ble rfl) t1 (fr_ble rfl) (ct_T_entries ht ?_)
  (repeat (first | refine pm_W.ts rfl rfl ?_ | refine pm_W.tl rfl rfl ?_))
  refine pm_W.icmp rfl (fun c => ?_) (fun c => ?_)
  · have c : nI 10 ≤ nI (tr_cnt (tr_u S) 10) := c
    rw [nI_leI (by omega) (by omega)] at c
    (iterate 2 (first | refine pm_W.ts rfl rfl ?_ | refine pm_W.tl rfl rfl ?_))
    exact mid false ⟨(fun z => by cases z), fun z => by have := z.1; omega⟩
  · have c : ¬ nI 10 ≤ nI (tr_cnt (tr_u S) 10) := c
    rw [nI_leI (by omega) (by omega)] at c
    (repeat (first | refine pm_W.ts rfl rfl ?_ | refine pm_W.tl rfl rfl ?_ | refine pm_W.get rfl rfl hr' rfl ?_))
    refine pm_W.callV rfl rfl rfl rfl (fr_ble rfl) t1 (fr_ble rfl) (ct_T_depthOf ht (by omega) ?_)
    (repeat (first | refine pm_W.ts rfl rfl ?_ | refine pm_W.tl rfl rfl ?_))
    refine pm_W.icmp rfl (fun c2 => ?_) (fun c2 => ?_)
    · have c2 : nI 6 ≤ nI (tr_climb S 6 (tr_P S d)) := c2
      rw [nI_leI (by omega) (by omega)] at c2
      (iterate 2 (first | refine pm_W.ts rfl rfl ?_ | refine pm_W.tl rfl rfl ?_))
      exact mid false ⟨(fun z => by cases z), fun z => by have := z.2; omega⟩
    · have c2 : ¬ nI 6 ≤ nI (tr_climb S 6 (tr_P S d)) := c2
      rw [nI_leI (by omega) (by omega)] at c2
      (iterate 1 (first | refine pm_W.ts rfl rfl ?_ | refine pm_W.tl rfl rfl ?_))
      refine pm_W.goto rfl ?_
      (iterate 1 (first | refine pm_W.ts rfl rfl ?_ | refine pm_W.tl rfl rfl ?_))
      exact mid true ⟨fun _ => ⟨by omega, by omega⟩, fun _ => rfl⟩
def tr_rt (S : tr_S) : Prop := tr_K S 0 = 2 ∧ tr_N S 0 = 0 ∧ tr_P S 0 = none
theorem tr_rt_add {S : tr_S} {s d w v : Nat} (h : tr_rt S) (hs : 1 ≤ s) : tr_rt (tr_add S s d w v) := by
  obtain ⟨h1, h2, h3⟩ := h
  refine ⟨?_, ?_, ?_⟩
  · show (S.1.set s v).getD 0 0 = 2
    rw [List.getD_eq_getElem?_getD, List.getElem?_set_ne (by omega)]
    rw [tr_K, List.getD_eq_getElem?_getD] at h1
    exact h1
  · show (S.2.1.set s w).getD 0 0 = 0
    rw [List.getD_eq_getElem?_getD, List.getElem?_set_ne (by omega)]
    rw [tr_N, List.getD_eq_getElem?_getD] at h2
    exact h2
  · show (S.2.2.1.set s (some d)).getD 0 none = none
    rw [List.getD_eq_getElem?_getD, List.getElem?_set_ne (by omega)]
    rw [tr_P, List.getD_eq_getElem?_getD] at h3
    exact h3
theorem tr_rt_setB {S : tr_S} {s : Nat} {bs : List Int32} (h : tr_rt S) : tr_rt (tr_setB S s bs) := h
theorem tr_rt_setK {S : tr_S} {s v : Nat} (h : tr_rt S) (hs : 1 ≤ s) : tr_rt (tr_setK S s v) := by
  obtain ⟨h1, h2, h3⟩ := h
  refine ⟨?_, h2, h3⟩
  show (S.1.set s v).getD 0 0 = 2
  rw [List.getD_eq_getElem?_getD, List.getElem?_set_ne (by omega)]
  rw [tr_K, List.getD_eq_getElem?_getD] at h1
  exact h1
theorem tr_rt_clr {S : tr_S} (h : tr_rt S) : ∀ n, tr_rt (tr_clr S n) := by
  intro n
  induction n with
  | zero => exact h
  | succ n ih => exact tr_rt_setK ih (by omega)
def tr_fb (S : tr_S) : Nat := tr_sm (tr_f S) (fun s => (tr_B S s).length) 10
theorem ct_R_readFile {s : Nat} (hr : rd_R h r o t p false) (ho : bt_R h o ro (ws.map nI)) (hw : rd_by ws) (hp : p < 10000) (ht : tr_R h t S) (hs : s < 11) (hB : tr_B S s = []) (hfb : tr_fb S ≤ 80)
    (d1 : r < o ∨ o + 2 ≤ r) (d2 : r < t ∨ t + 27 ≤ r) (d3 : t + 27 ≤ o ∨ o + 2 ≤ t)
    (kF1 : ¬ (p < ws.length ∧ rd_w ws p ≤ 16 ∧ tr_fb S + rd_w ws p ≤ 80) → ∀ h' : pm_H, rd_R h' r o t p true → tr_R h' t S → bt_R h' o ro (ws.map nI) → h'.2 = h.2 → h'.1.length = h.1.length → (∀ k, k ≠ r → (k < t ∨ t + 27 ≤ k) → h'.1[k]? = h.1[k]?) → Q none h')
    (kF2 : p < ws.length → rd_w ws p ≤ 16 → tr_fb S + rd_w ws p ≤ 80 → ws.length < p + 1 + rd_w ws p → ∀ (h' : pm_H) (S' : tr_S), (∃ bs, S' = tr_setB S s bs) → rd_R h' r o t ws.length true → tr_R h' t S' → bt_R h' o ro (ws.map nI) → h'.2 = h.2 → h'.1.length = h.1.length → (∀ k, k ≠ r → (k < t ∨ t + 27 ≤ k) → h'.1[k]? = h.1[k]?) → Q none h')
    (kOk : p < ws.length → rd_w ws p ≤ 16 → tr_fb S + rd_w ws p ≤ 80 → p + 1 + rd_w ws p ≤ ws.length → ∀ h' : pm_H, rd_R h' r o t (p + 1 + rd_w ws p) false → tr_R h' t (tr_setB S s (((ws.drop (p + 1)).take (rd_w ws p)).map nI)) → bt_R h' o ro (ws.map nI) → h'.2 = h.2 → h'.1.length = h.1.length → (∀ k, k ≠ r → (k < t ∨ t + 27 ≤ k) → h'.1[k]? = h.1[k]?) → Q none h') :
    pm_X xs 3 mR_readFile [.ref r, .ref (t + 5 + 2 * s)] h Q := by
  have hr' : h.1[r]? = some (.inr (.inr (kR, [Value.ref o, .ref t, .int (nI p), .int (fr_b false)]))) := hr
  obtain ⟨t1, -⟩ := id ht
  have hwl := rd_lt hw p
  have hro : ws.length ≤ ro ∧ ro ≤ 1000 := by obtain ⟨ys, -, -, -, -, g5, g6⟩ := id ho; rw [List.length_map] at g5; exact ⟨g5, g6⟩
  have badloop : ∀ (q i : Nat) (g : pm_H) (bs : List Int32), i + q = rd_w ws p → p < ws.length → rd_w ws p ≤ 16 → tr_fb S + rd_w ws p ≤ 80 → ws.length < p + 1 + rd_w ws p → bs.length = i → rd_R g r o t ws.length true → tr_R g t (tr_setB S s bs) → bt_R g o ro (ws.map nI) → g.2 = h.2 → g.1.length = h.1.length → (∀ k, k ≠ r → (k < t ∨ t + 27 ≤ k) → g.1[k]? = h.1[k]?) →
      pm_W xs 3 mR_readFile 23 [.ref r, .ref (t + 5 + 2 * s), .int (nI (rd_w ws p)), .int (nI i)] [] g Q := by
    intro q
    induction q with
    | zero =>
      intro i g bs hi a1 a2 a3 a4 hbs gr gt go e1 e2 e3
      (repeat (first | refine pm_W.ts rfl rfl ?_ | refine pm_W.tl rfl rfl ?_))
      refine pm_W.icmp rfl (fun c => ?_) (fun c => ?_)
      · exact pm_W.ret rfl rfl (kF2 a1 a2 a3 a4 g _ ⟨bs, rfl⟩ gr gt go e1 e2 e3)
      · have c : ¬ nI (rd_w ws p) ≤ nI i := c
        rw [nI_leI (by omega) (by omega)] at c
        omega
    | succ q ih =>
      intro i g bs hi a1 a2 a3 a4 hbs gr gt go e1 e2 e3
      (repeat (first | refine pm_W.ts rfl rfl ?_ | refine pm_W.tl rfl rfl ?_))
      refine pm_W.icmp rfl (fun c => ?_) (fun c => ?_)
      · have c : nI (rd_w ws p) ≤ nI i := c
        rw [nI_leI (by omega) (by omega)] at c
        omega
      · (repeat (first | refine pm_W.ts rfl rfl ?_ | refine pm_W.tl rfl rfl ?_))
        refine pm_W.ifnullR rfl ?_
        (repeat (first | refine pm_W.ts rfl rfl ?_ | refine pm_W.tl rfl rfl ?_))
        have gr' : g.1[r]? = some (.inr (.inr (kR, [Value.ref o, .ref t, .int (nI ws.length), .int (fr_b true)]))) := gr
        refine pm_W.callV rfl rfl rfl rfl (fr_ble rfl) gr' (fr_ble rfl) (ct_R_take (lo := 0) (hi := 255) gr go hw (by omega) (by omega) (by omega) (fun z => by cases z) (fun _ g2 gr2 hag => ?_))
        have gt2 := gt.ag hag (by omega)
        have gB := gt2.2.2.2.2.2.1 s hs
        have eB : tr_B (tr_setB S s bs) s = bs := by show (if s = s then bs else _) = bs; rw [if_pos rfl]
        rw [eB] at gB
        obtain ⟨ys, b1, -⟩ := id gB
        refine pm_W.callV (d' := 0) rfl rfl rfl rfl (fr_ble rfl) b1 (fr_ble rfl) (ct_B_add gB (fun z => by omega) (fun _ g3 gB3 hag3 => ?_))
        (iterate 2 (first | refine pm_W.ts rfl rfl ?_ | refine pm_W.tl rfl rfl ?_))
        refine pm_W.goto rfl ?_
        have gt3 := gt2.setB (s := s) hs gB3 hag3
        have eS : tr_setB (tr_setB S s bs) s (bs ++ [-1 &&& 255]) = tr_setB S s (bs ++ [-1 &&& 255]) := by
          show (S.1, S.2.1, S.2.2.1, fun t => if t = s then _ else if t = s then bs else S.2.2.2 t) = _
          unfold tr_setB
          congr 3
          funext t
          by_cases e : t = s
          · rw [if_pos e, if_pos e]
          · rw [if_neg e, if_neg e, if_neg e]
        rw [eS] at gt3
        have := ih (i + 1) g3 (bs ++ [-1 &&& 255]) (by omega) a1 a2 a3 a4 (by rw [List.length_append, List.length_singleton]; omega) (hag3.at (by omega) gr2) gt3 ((go.ag hag (by omega)).ag hag3 (by omega)) (hag3.1.trans (hag.1.trans e1)) (hag3.2.1.trans (hag.2.1.trans e2)) (fun k hk1 hk2 => by rw [hag3.2.2 k (by omega), hag.2.2 k (by omega)]; exact e3 k hk1 hk2)
        rw [← fr_inc i] at this
        exact this
  have loop : ∀ (q i : Nat) (g : pm_H), i + q = rd_w ws p → p < ws.length → rd_w ws p ≤ 16 → tr_fb S + rd_w ws p ≤ 80 → p + 1 + i ≤ ws.length → rd_R g r o t (p + 1 + i) false → tr_R g t (tr_setB S s (((ws.drop (p + 1)).take i).map nI)) → bt_R g o ro (ws.map nI) → g.2 = h.2 → g.1.length = h.1.length → (∀ k, k ≠ r → (k < t ∨ t + 27 ≤ k) → g.1[k]? = h.1[k]?) →
      pm_W xs 3 mR_readFile 23 [.ref r, .ref (t + 5 + 2 * s), .int (nI (rd_w ws p)), .int (nI i)] [] g Q := by
    intro q
    induction q with
    | zero =>
      intro i g hi a1 a2 a3 a4 gr gt go e1 e2 e3
      (repeat (first | refine pm_W.ts rfl rfl ?_ | refine pm_W.tl rfl rfl ?_))
      refine pm_W.icmp rfl (fun c => ?_) (fun c => ?_)
      · have e : i = rd_w ws p := by omega
        subst e
        exact pm_W.ret rfl rfl (kOk a1 a2 a3 a4 g gr gt go e1 e2 e3)
      · have c : ¬ nI (rd_w ws p) ≤ nI i := c
        rw [nI_leI (by omega) (by omega)] at c
        omega
    | succ q ih =>
      intro i g hi a1 a2 a3 a4 gr gt go e1 e2 e3
      have hwi := rd_lt hw (p + 1 + i)
      (repeat (first | refine pm_W.ts rfl rfl ?_ | refine pm_W.tl rfl rfl ?_))
      refine pm_W.icmp rfl (fun c => ?_) (fun c => ?_)
      · have c : nI (rd_w ws p) ≤ nI i := c
        rw [nI_leI (by omega) (by omega)] at c
        omega
      · (repeat (first | refine pm_W.ts rfl rfl ?_ | refine pm_W.tl rfl rfl ?_))
        refine pm_W.ifnullR rfl ?_
        (repeat (first | refine pm_W.ts rfl rfl ?_ | refine pm_W.tl rfl rfl ?_))
        have gr' : g.1[r]? = some (.inr (.inr (kR, [Value.ref o, .ref t, .int (nI (p + 1 + i)), .int (fr_b false)]))) := gr
        have lenB : (((ws.drop (p + 1)).take i).map nI).length = i := by rw [List.length_map, List.length_take, List.length_drop]; omega
        refine pm_W.callV rfl rfl rfl rfl (fr_ble rfl) gr' (fr_ble rfl) (ct_R_take (lo := 0) (hi := 255) gr go hw (by omega) (by omega) (by omega) (fun _ hk g2 gr2 hag => ?_) (fun hk g2 gr2 hag => ?_))
        · have gt2 := gt.ag hag (by omega)
          have gB := gt2.2.2.2.2.2.1 s hs
          have eB : tr_B (tr_setB S s (((ws.drop (p + 1)).take i).map nI)) s = ((ws.drop (p + 1)).take i).map nI := by show (if s = s then _ else _) = _; rw [if_pos rfl]
          rw [eB] at gB
          obtain ⟨ys, b1, -⟩ := id gB
          refine pm_W.callV (d' := 0) rfl rfl rfl rfl (fr_ble rfl) b1 (fr_ble rfl) (ct_B_add gB (fun z => by omega) (fun _ g3 gB3 hag3 => ?_))
          (iterate 2 (first | refine pm_W.ts rfl rfl ?_ | refine pm_W.tl rfl rfl ?_))
          refine pm_W.goto rfl ?_
          have eN : ((ws.drop (p + 1)).take i).map nI ++ [nI (rd_w ws (p + 1 + i)) &&& 255] = ((ws.drop (p + 1)).take (i + 1)).map nI := by
            rw [fr_255 _ hwi, List.take_add_one, List.getElem?_drop, List.map_append]
            congr 1
            have hk1 := hk.1
            rw [List.getElem?_eq_getElem hk1]
            show [nI (rd_w ws (p + 1 + i))] = [nI _]
            congr 2
            simp [rd_w, hk1]
          rw [eN] at gB3
          have gt3 := gt2.setB (s := s) hs gB3 hag3
          have eS : tr_setB (tr_setB S s (((ws.drop (p + 1)).take i).map nI)) s (((ws.drop (p + 1)).take (i + 1)).map nI) = tr_setB S s (((ws.drop (p + 1)).take (i + 1)).map nI) := by
            show (S.1, S.2.1, S.2.2.1, fun t => if t = s then _ else if t = s then _ else S.2.2.2 t) = _
            unfold tr_setB
            congr 3
            funext t
            by_cases e : t = s
            · rw [if_pos e, if_pos e]
            · rw [if_neg e, if_neg e, if_neg e]
          rw [eS] at gt3
          have := ih (i + 1) g3 (by omega) a1 a2 a3 hk.1 (hag3.at (by omega) gr2) gt3 ((go.ag hag (by omega)).ag hag3 (by omega)) (hag3.1.trans (hag.1.trans e1)) (hag3.2.1.trans (hag.2.1.trans e2)) (fun k hk1 hk2 => by rw [hag3.2.2 k (by omega), hag.2.2 k (by omega)]; exact e3 k hk1 hk2)
          rw [← fr_inc i] at this
          exact this
        · have hend : p + 1 + i = ws.length := by
            apply Nat.le_antisymm a4
            apply Nat.le_of_not_lt
            intro z
            exact hk ⟨rfl, z, Nat.zero_le _, by omega⟩
          have gt2 := gt.ag hag (by omega)
          have gB := gt2.2.2.2.2.2.1 s hs
          have eB : tr_B (tr_setB S s (((ws.drop (p + 1)).take i).map nI)) s = ((ws.drop (p + 1)).take i).map nI := by show (if s = s then _ else _) = _; rw [if_pos rfl]
          rw [eB] at gB
          obtain ⟨ys, b1, -⟩ := id gB
          refine pm_W.callV (d' := 0) rfl rfl rfl rfl (fr_ble rfl) b1 (fr_ble rfl) (ct_B_add gB (fun z => by omega) (fun _ g3 gB3 hag3 => ?_))
          (iterate 2 (first | refine pm_W.ts rfl rfl ?_ | refine pm_W.tl rfl rfl ?_))
          refine pm_W.goto rfl ?_
          have gt3 := gt2.setB (s := s) hs gB3 hag3
          have eS : tr_setB (tr_setB S s (((ws.drop (p + 1)).take i).map nI)) s (((ws.drop (p + 1)).take i).map nI ++ [-1 &&& 255]) = tr_setB S s (((ws.drop (p + 1)).take i).map nI ++ [-1 &&& 255]) := by
            show (S.1, S.2.1, S.2.2.1, fun t => if t = s then _ else if t = s then _ else S.2.2.2 t) = _
            unfold tr_setB
            congr 3
            funext t
            by_cases e : t = s
            · rw [if_pos e, if_pos e]
            · rw [if_neg e, if_neg e, if_neg e]
          rw [eS] at gt3
          rw [hend] at gr2
          have := badloop q (i + 1) g3 (((ws.drop (p + 1)).take i).map nI ++ [-1 &&& 255]) (by omega) a1 a2 a3 (by omega) (by rw [List.length_append, List.length_singleton, lenB]) (hag3.at (by omega) gr2) gt3 ((go.ag hag (by omega)).ag hag3 (by omega)) (hag3.1.trans (hag.1.trans e1)) (hag3.2.1.trans (hag.2.1.trans e2)) (fun k hk1 hk2 => by rw [hag3.2.2 k (by omega), hag.2.2 k (by omega)]; exact e3 k hk1 hk2)
          rw [← fr_inc i] at this
          exact this
  unfold pm_X
  (repeat (first | refine pm_W.ts rfl rfl ?_ | refine pm_W.tl rfl rfl ?_ | refine pm_W.get rfl rfl hr' rfl ?_))
  refine pm_W.callV (d' := 1) rfl rfl rfl rfl (fr_ble rfl) t1 (fr_ble rfl) (ct_T_fileBytes ht ?_)
  have e1 : (Int8.ofInt 80).toInt32 - nI (tr_fb S) = nI (80 - tr_fb S) := fr_sub (i := 80) hfb
  (iterate 1 (first | refine pm_W.ts rfl rfl ?_ | refine pm_W.tl rfl rfl ?_))
  rw [show nI (tr_sm (tr_f S) (fun s => (tr_B S s).length) 10) = nI (tr_fb S) from rfl, e1]
  refine pm_W.min rfl rfl rfl rfl ?_
  have e2 : (if nI (80 - tr_fb S) < (Int8.ofInt 16).toInt32 then nI (80 - tr_fb S) else (Int8.ofInt 16).toInt32) = nI (min 16 (80 - tr_fb S)) := by
    show (if nI (80 - tr_fb S) < nI 16 then nI (80 - tr_fb S) else nI 16) = _
    by_cases q : 80 - tr_fb S < 16
    · rw [if_pos (nI_lt q (by omega))]; congr 1; omega
    · rw [if_neg (fun z => q ((nI_ltI (by omega) (by omega)).mp z))]; congr 1; omega
  rw [e2]
  refine pm_W.callV rfl rfl rfl rfl (fr_ble rfl) hr' (fr_ble rfl) (ct_R_take (lo := 0) (hi := min 16 (80 - tr_fb S)) hr ho hw (by omega) (by omega) (by omega) (fun _ hk g2 gr2 hag => ?_) (fun hk g2 gr2 hag => ?_))
  · (iterate 3 (first | refine pm_W.ts rfl rfl ?_ | refine pm_W.tl rfl rfl ?_))
    have hk3 := hk.2.2
    refine loop (rd_w ws p) 0 g2 (by omega) hk.1 (by omega) (by omega) (by have := hk.1; omega) gr2 ?_ (ho.ag hag (by omega)) hag.1 hag.2.1 (fun k hk1 hk2 => hag.2.2 k (by omega))
    have eS : tr_setB S s (((ws.drop (p + 1)).take 0).map nI) = S := by
      show (S.1, S.2.1, S.2.2.1, fun t => if t = s then [] else S.2.2.2 t) = S
      have : (fun t => if t = s then [] else S.2.2.2 t) = S.2.2.2 := by
        funext t
        by_cases e : t = s
        · rw [if_pos e, e]; exact hB.symm
        · rw [if_neg e]
      rw [this]
    rw [eS]
    exact ht.ag hag (by omega)
  · (repeat (first | refine pm_W.ts rfl rfl ?_ | refine pm_W.tl rfl rfl ?_))
    refine pm_W.icmp rfl (fun c => ?_) (fun c => absurd (show (-1 : Int32) ≤ Int32.ofInt 0 by decide) c)
    exact pm_W.ret rfl rfl (kF1 (fun z => hk ⟨rfl, z.1, Nat.zero_le _, by have := z.2.1; have := z.2.2; omega⟩) g2 gr2 (ht.ag hag (by omega)) (ho.ag hag (by omega)) hag.1 hag.2.1 (fun k hk1 hk2 => hag.2.2 k (by omega)))
end READER
