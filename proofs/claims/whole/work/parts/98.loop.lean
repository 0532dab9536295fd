section LLOOP
variable {xs : List Int32} {h : pm_H} {z : cz_N} {i c : Nat} {Q : Option Value → pm_H → Prop}
set_option maxRecDepth 100000 in
theorem lw_step (H : lw_h h z c) (hi : i + 5 < xs.length) (hx : xs.length ≤ 4000) (K : ∀ h', lw_h h' z (c + 1) → pm_W xs 8 pt_law 690 [.retAddr 1, .ref 0, .ref 185, .int (nI i)] [] h' Q) : pm_W xs 8 pt_law 57 [.retAddr 1, .ref 0, .ref 185, .int (nI i)] [] h Q := by
  obtain ⟨p, hp, e⟩ := fr_any (xs.getD i 0)
  (iterate 2 (first | refine pm_W.ts rfl rfl ?_ | refine pm_W.tl rfl rfl ?_))
  refine pm_W.sald rfl (pm_ix_ok (j := i) (by omega) (by omega)) ?_
  rw [e]
  (iterate 2 (first | refine pm_W.ts rfl rfl ?_ | refine pm_W.tl rfl rfl ?_))
  show pm_W xs 8 pt_law _ _ [.int (nI p &&& nI (2 ^ 5 - 1))] h Q
  rw [fr_mask]
  have hk : p % 2 ^ 5 < 32 := Nat.mod_lt _ (by omega)
  generalize p % 2 ^ 5 = k at hk ⊢
  match k, hk with
  | 0, _ => exact pm_W.sw rfl rfl rfl (lw_c0 H hi hx K)
  | 1, _ => exact pm_W.sw rfl rfl rfl (lw_c1 H hi hx K)
  | 2, _ => exact pm_W.sw rfl rfl rfl (lw_c2 H hi hx K)
  | 3, _ => exact pm_W.sw rfl rfl rfl (lw_c3 H hi hx K)
  | 4, _ => exact pm_W.sw rfl rfl rfl (lw_c4 H hi hx K)
  | 5, _ => exact pm_W.sw rfl rfl rfl (lw_c5 H hi hx K)
  | 6, _ => exact pm_W.sw rfl rfl rfl (lw_c6 H hi hx K)
  | 7, _ => exact pm_W.sw rfl rfl rfl (lw_c7 H hi hx K)
  | 8, _ => exact pm_W.sw rfl rfl rfl (lw_c8 H hi hx K)
  | 9, _ => exact pm_W.sw rfl rfl rfl (lw_c9 H hi hx K)
  | 10, _ => exact pm_W.sw rfl rfl rfl (lw_c10 H hi hx K)
  | 11, _ => exact pm_W.sw rfl rfl rfl (lw_c11 H hi hx K)
  | 12, _ => exact pm_W.sw rfl rfl rfl (lw_c12 H hi hx K)
  | 13, _ => exact pm_W.sw rfl rfl rfl (lw_c13 H hi hx K)
  | 14, _ => exact pm_W.sw rfl rfl rfl (lw_c14 H hi hx K)
  | 15, _ => exact pm_W.sw rfl rfl rfl (lw_c15 H hi hx K)
  | 16, _ => exact pm_W.sw rfl rfl rfl (lw_c16 H hi hx K)
  | 17, _ => exact pm_W.sw rfl rfl rfl (lw_c17 H hi hx K)
  | 18, _ => exact pm_W.sw rfl rfl rfl (lw_c18 H hi hx K)
  | 19, _ => exact pm_W.sw rfl rfl rfl (K h (lw_up H))
  | 20, _ => exact pm_W.sw rfl rfl rfl (K h (lw_up H))
  | 21, _ => exact pm_W.sw rfl rfl rfl (K h (lw_up H))
  | 22, _ => exact pm_W.sw rfl rfl rfl (K h (lw_up H))
  | 23, _ => exact pm_W.sw rfl rfl rfl (K h (lw_up H))
  | 24, _ => exact pm_W.sw rfl rfl rfl (K h (lw_up H))
  | 25, _ => exact pm_W.sw rfl rfl rfl (K h (lw_up H))
  | 26, _ => exact pm_W.sw rfl rfl rfl (K h (lw_up H))
  | 27, _ => exact pm_W.sw rfl rfl rfl (K h (lw_up H))
  | 28, _ => exact pm_W.sw rfl rfl rfl (K h (lw_up H))
  | 29, _ => exact pm_W.sw rfl rfl rfl (K h (lw_up H))
  | 30, _ => exact pm_W.sw rfl rfl rfl (K h (lw_up H))
  | 31, _ => exact pm_W.sw rfl rfl rfl (K h (lw_up H))
  | n + 32, hk => omega
set_option maxRecDepth 100000 in
theorem lw_loop (hx : xs.length ≤ 3075) (hQ : ∀ (h : pm_H) (c : Nat), lw_h h z c → c ≤ 520 → Q (some (.int 1)) h) : ∀ (r i c : Nat) (h : pm_H), xs.length < i + 6 * r + 6 → i = 3 + 6 * c → i ≤ xs.length + 6 → lw_h h z c → pm_W xs 8 pt_law 48 [.retAddr 1, .ref 0, .ref 185, .int (nI i)] [] h Q := by
  intro r
  induction r with
  | zero =>
    intro i c h hr hi hil H
    have out : pm_W xs 8 pt_law 696 [.retAddr 1, .ref 0, .ref 185, .int (nI i)] [] h Q := by
      (iterate 1 (first | refine pm_W.ts rfl rfl ?_ | refine pm_W.tl rfl rfl ?_))
      exact pm_W.iret rfl rfl (hQ h c H (by omega))
    have lt : nI xs.length - nI 6 < nI i := by
      rw [fr_lt, Int32.toInt_sub, nI_toInt (by omega), nI_toInt (by omega), nI_toInt (by omega)]
      rw [Int.bmod_eq_of_le (by omega) (by omega)]
      omega
    (iterate 2 (first | refine pm_W.ts rfl rfl ?_ | refine pm_W.tl rfl rfl ?_))
    refine pm_W.slen rfl ?_
    (iterate 2 (first | refine pm_W.ts rfl rfl ?_ | refine pm_W.tl rfl rfl ?_))
    exact pm_W.icmp rfl (fun _ => out) (fun q => absurd lt q)
  | succ r ih =>
    intro i c h hr hi hil H
    have out : pm_W xs 8 pt_law 696 [.retAddr 1, .ref 0, .ref 185, .int (nI i)] [] h Q := by
      (iterate 1 (first | refine pm_W.ts rfl rfl ?_ | refine pm_W.tl rfl rfl ?_))
      exact pm_W.iret rfl rfl (hQ h c H (by omega))
    (iterate 2 (first | refine pm_W.ts rfl rfl ?_ | refine pm_W.tl rfl rfl ?_))
    refine pm_W.slen rfl ?_
    (iterate 2 (first | refine pm_W.ts rfl rfl ?_ | refine pm_W.tl rfl rfl ?_))
    refine pm_W.icmp rfl (fun _ => out) (fun q => ?_)
    have q : ¬ nI xs.length - nI 6 < nI i := q
    have hle : i + 6 ≤ xs.length := by
      rcases Nat.lt_or_ge xs.length (i + 6) with u | u
      · exfalso
        apply q
        rw [fr_lt, Int32.toInt_sub, nI_toInt (by omega), nI_toInt (by omega), nI_toInt (by omega)]
        rw [Int.bmod_eq_of_le (by omega) (by omega)]
        omega
      · exact u
    refine lw_step H (by omega) (by omega) (fun h' H' => ?_)
    (iterate 1 (first | refine pm_W.ts rfl rfl ?_ | refine pm_W.tl rfl rfl ?_))
    refine pm_W.goto rfl ?_
    rw [show nI i + Int32.ofInt 6 = nI (i + 6) from nI_add i 6]
    exact ih (i + 6) (c + 1) h' (by omega) (by omega) (by omega) H'
def lw_cell (xs : List Int32) (k : Nat) : Int32 := if k < xs.length then xs.getD k 0 else 0
theorem ct_L_cell {k : Nat} (hk : k < 100) (hx : xs.length ≤ 4000) (kk : Q (some (.int (lw_cell xs k))) h) : pm_X xs 0 mL_cell [.retAddr 1, .int (nI k)] h Q := by
  unfold pm_X
  (iterate 2 (first | refine pm_W.ts rfl rfl ?_ | refine pm_W.tl rfl rfl ?_))
  refine pm_W.slen rfl ?_
  refine pm_W.icmp rfl (fun c => ?_) (fun c => ?_)
  · have c : nI xs.length ≤ nI k := c
    rw [nI_leI (by omega) (by omega)] at c
    (iterate 1 (first | refine pm_W.ts rfl rfl ?_ | refine pm_W.tl rfl rfl ?_))
    refine pm_W.iret rfl rfl ?_
    unfold lw_cell at kk
    rw [if_neg (by omega)] at kk
    exact kk
  · have c : ¬ nI xs.length ≤ nI k := c
    rw [nI_leI (by omega) (by omega)] at c
    (iterate 2 (first | refine pm_W.ts rfl rfl ?_ | refine pm_W.tl rfl rfl ?_))
    refine pm_W.sald rfl (pm_ix_ok (j := k) (by omega) (by omega)) ?_
    refine pm_W.goto rfl ?_
    refine pm_W.iret rfl rfl ?_
    unfold lw_cell at kk
    rw [if_pos (by omega)] at kk
    exact kk
theorem mr_A0_at {i t : Nat} : (mr_A0 i).getD t 0 = 0 := by
  unfold mr_A0
  rw [List.getD_eq_getElem?_getD, List.getElem?_replicate]
  split <;> rfl
theorem lw_start {h : pm_H} {z : cz_N} (hz : cz_ok z) (hD : dp_R h 0 z (fun _ => []) [] [] (fun _ => ([], [])) [] [0, 0, 0, 0] false tr_S0) (hM : mr_R h 185 mr_A0 (mr_I0 z)) (n1 : h.1.length ≤ 200) (n2 : h.2 ≤ 6000) : lw_h h z 0 := by
  have nok : kp_by [] := fun i hi => absurd hi (Nat.not_lt_zero _)
  refine ⟨_, _, _, _, _, _, _, _, uk_T0, _, _, hD, hM, ⟨fun e he => ⟨mr_A0_at, fun q => absurd rfl q⟩, fun t ht => ⟨mr_A0_at, fun q => absurd rfl q, 0, by omega, mr_A0_at⟩, fun j hj => absurd hj (Nat.not_lt_zero _), rfl, fun j hj => absurd hj (Nat.not_lt_zero _), rfl, fun s hs => ⟨mr_A0_at, by show 0 ≤ 117; omega, fun t ht => absurd ht (Nat.not_lt_zero _), mr_A0_at, by show 0 ≤ 15; omega, fun t ht => absurd ht (Nat.not_lt_zero _)⟩, ⟨rfl, by show 0 ≤ 120; omega, fun t ht => absurd ht (Nat.not_lt_zero _)⟩, fun t ht => ?_, ⟨rfl, rfl, rfl⟩⟩, ⟨hz, uk_V0.1, ⟨tr_S0_rt, fun e he => ⟨?_, fun q => absurd rfl q⟩⟩, fun t ht j hj => absurd hj (Nat.not_lt_zero _), nok, nok, fun s hs => ⟨bt_ok_nil, fun j hj => absurd hj (Nat.not_lt_zero _)⟩, fun x hx => by cases hx⟩, by omega, by omega⟩
  · match t, ht with
    | 0, _ => rfl
    | 1, _ => rfl
    | 2, _ => rfl
    | 3, _ => rfl
    | m + 4, ht => omega
  · refine ⟨fun _ => ?_, fun _ => rfl⟩
    have : ∀ e, e < 10 → tr_K tr_S0 (e + 1) = 0 := by decide
    exact this e he
set_option maxRecDepth 100000 in
theorem lw_run (hx : xs.length ≤ 3075) (hQ : ∀ (h : pm_H) (z : cz_N) (c : Nat), lw_h h z c → c ≤ 520 → Q (some (.int 1)) h) : pm_X xs 8 pt_law [.retAddr 1] ([], 0) Q := by
  unfold pm_X
  refine pm_W.newF (p := 0) rfl rfl rfl (fun g1 p1 e1 => ?_)
  (iterate 3 (first | refine pm_W.ts rfl rfl ?_ | refine pm_W.tl rfl rfl ?_))
  refine pm_W.callS (d' := 0) rfl rfl rfl rfl (fr_ble rfl) (fr_ble rfl) (ct_L_cell (k := 0) (by omega) (by omega) ?_)
  (iterate 2 (first | refine pm_W.ts rfl rfl ?_ | refine pm_W.tl rfl rfl ?_))
  refine pm_W.callS (d' := 0) rfl rfl rfl rfl (fr_ble rfl) (fr_ble rfl) (ct_L_cell (k := 1) (by omega) (by omega) ?_)
  (iterate 2 (first | refine pm_W.ts rfl rfl ?_ | refine pm_W.tl rfl rfl ?_))
  refine pm_W.callS (d' := 0) rfl rfl rfl rfl (fr_ble rfl) (fr_ble rfl) (ct_L_cell (k := 2) (by omega) (by omega) ?_)
  refine pm_W.callI (d' := 2) (as := [.int (lw_cell xs 0), .int (lw_cell xs 1), .int (lw_cell xs 2)]) rfl rfl rfl rfl (fr_ble rfl) p1 (fr_ble rfl) (ct_D_init p1 e1.1 (fun g2 hD e2 => ?_))
  have l2 : g2.1.length = 185 := by rw [e2.1, e1.1]; rfl
  have s2 : g2.2 = 10 + 2848 := by rw [e2.2.1, e1.2.1]; rfl
  (iterate 1 (first | refine pm_W.ts rfl rfl ?_ | refine pm_W.tl rfl rfl ?_))
  refine pm_W.newF (p := 185) rfl rfl l2 (fun g3 p3 e3 => ?_)
  have hD3 := hD.ukeep (h' := g3) (fun k _ hk => e3.2.2 k (by omega))
  (iterate 3 (first | refine pm_W.ts rfl rfl ?_ | refine pm_W.tl rfl rfl ?_))
  refine pm_W.callS (d' := 0) rfl rfl rfl rfl (fr_ble rfl) (fr_ble rfl) (ct_L_cell (k := 0) (by omega) (by omega) ?_)
  (iterate 2 (first | refine pm_W.ts rfl rfl ?_ | refine pm_W.tl rfl rfl ?_))
  refine pm_W.callS (d' := 0) rfl rfl rfl rfl (fr_ble rfl) (fr_ble rfl) (ct_L_cell (k := 1) (by omega) (by omega) ?_)
  (iterate 2 (first | refine pm_W.ts rfl rfl ?_ | refine pm_W.tl rfl rfl ?_))
  refine pm_W.callS (d' := 0) rfl rfl rfl rfl (fr_ble rfl) (fr_ble rfl) (ct_L_cell (k := 2) (by omega) (by omega) ?_)
  refine pm_W.callI (d' := 0) (as := [.int (lw_cell xs 0), .int (lw_cell xs 1), .int (lw_cell xs 2)]) rfl rfl rfl rfl (fr_ble rfl) p3 (fr_ble rfl) (ct_M_init p3 (by rw [e3.1, l2]) (fun g4 hM e4 => ?_))
  have hD4 := hD3.ukeep (h' := g4) (fun k _ hk => e4.2.2 k (by omega))
  (iterate 3 (first | refine pm_W.ts rfl rfl ?_ | refine pm_W.tl rfl rfl ?_))
  refine lw_loop (z := cz_mk (lw_cell xs 0) (lw_cell xs 1) (lw_cell xs 2)) hx (fun h c H hc => hQ h _ c H hc) 600 3 0 g4 (by omega) (by omega) (by omega) (lw_start cz_mk_ok hD4 hM ?_ ?_)
  · rw [e4.1, e3.1, l2]
    omega
  · rw [e4.2.1, e3.2.1, s2]
    show 10 + 2848 + 25 + 2789 ≤ 6000
    omega
end LLOOP
