def bt_ok (bs : List Int32) : Prop := ∀ x ∈ bs, x &&& 255 = x
theorem fr_255 (n : Nat) (h : n < 256) : nI n &&& 255 = nI n := by
  have := fr_mask (a := n) 8
  rw [show n % 2 ^ 8 = n by omega] at this
  exact this
theorem bt_from_all {bs : List Int32} (hb : bt_ok bs) (hl : bs.length ≤ 1000) : bt_from bs 0 bs.length = bs := by
  apply List.ext_getElem?
  intro i
  by_cases hi : i < bs.length
  · have e : (0 : Int32) + nI i = nI i := Int32.zero_add _
    simp only [bt_from, List.getElem?_map, List.getElem?_range hi, Option.map_some]
    rw [e, bt_at_nat hi hl, List.getElem?_eq_getElem hi]
    have h1 : bs.getD i 0 = bs[i] := by simp [hi]
    rw [h1, hb _ (List.getElem_mem hi)]
  · rw [List.getElem?_eq_none (by rw [bt_from_len]; omega), List.getElem?_eq_none (by omega)]
abbrev ws_Q : Type := Option Nat × Nat × List Int32
def ws_file (S : tr_S) (c : Nat) : List Int32 := [1, nI (tr_N S c), nI (tr_B S c).length] ++ tr_B S c
def ws_step (S : tr_S) (d w : Nat) (o : List Int32) : ws_Q := match tr_best (tr_c S d) (tr_N S) w 10 with
  | none => (tr_P S d, tr_N S d, o ++ [9, nI (tr_cnt (tr_c S d) 10)])
  | some c => if tr_K S c = 1 then (some d, tr_N S c, o ++ ws_file S c) else (some c, 0, o ++ [2, nI (tr_N S c)])
def ws_run (S : tr_S) : Nat → ws_Q → ws_Q
  | 0, q => q
  | f + 1, q => match q.1 with
    | none => q
    | some d => ws_run S f (ws_step S d q.2.1 q.2.2)
theorem ws_step_len {S : tr_S} {d w : Nat} {o : List Int32} : o.length ≤ (ws_step S d w o).2.2.length := by
  unfold ws_step
  split
  · show o.length ≤ (o ++ _).length
    rw [List.length_append]; omega
  · split
    · show o.length ≤ (o ++ _).length
      rw [List.length_append]; omega
    · show o.length ≤ (o ++ _).length
      rw [List.length_append]; omega
theorem ws_run_len {S : tr_S} : ∀ (f : Nat) (q : ws_Q), q.2.2.length ≤ (ws_run S f q).2.2.length := by
  intro f
  induction f with
  | zero => intro q; exact Nat.le_refl _
  | succ f ih =>
    intro q
    unfold ws_run
    split
    · exact Nat.le_refl _
    · exact Nat.le_trans ws_step_len (ih _)
def ws_out (S : tr_S) : List Int32 := (ws_run S 22 (some 0, 0, [])).2.2
section STREAM
variable {xs : List Int32} {h : pm_H} {a o ro : Nat} {S : tr_S} {os : List Int32} {Q : Option Value → pm_H → Prop}
theorem ct_T_writeFile {s : Nat} (hb : tr_R h a S) (hs : s < 11) (hB : bt_ok (tr_B S s)) (ho : bt_R h o ro os) (hd : o + 2 ≤ a ∨ a + 27 ≤ o) (hl : (os ++ ws_file S s).length ≤ ro)
    (k : ∀ h' : pm_H, bt_R h' o ro (os ++ ws_file S s) → fr_ag o (o + 2) h h' → Q none h') : pm_X xs 3 mT_writeFile [.ref a, .int (nI s), .ref o] h Q := by
  obtain ⟨h1, h2, h3, h4, h5, h6, l1, l2, l3, bK, bN, bP⟩ := id hb
  have hBs := h6 s hs
  have hBl : (tr_B S s).length ≤ 16 := by obtain ⟨ys, -, -, -, -, g, -⟩ := id hBs; exact g
  have hro : ro ≤ 1000 := by obtain ⟨ys, -, -, -, -, -, g⟩ := id ho; exact g
  rw [ws_file, List.length_append, List.length_append] at hl
  simp only [List.length_cons, List.length_nil] at hl
  have hN := bN s
  obtain ⟨ys, o1, -⟩ := id ho
  unfold pm_X
  (repeat (first | refine pm_W.ts rfl rfl ?_ | refine pm_W.tl rfl rfl ?_ | refine pm_W.get rfl rfl h1 rfl ?_))
  refine pm_W.aald rfl h5 (pm_ix_ok (j := s) (by rw [tr_row_len]; omega) (by rw [tr_row_len]; omega)) (by decide) ?_
  rw [tr_rowD (by omega)]
  (repeat (first | refine pm_W.ts rfl rfl ?_ | refine pm_W.tl rfl rfl ?_))
  refine pm_W.callV (d' := 0) rfl rfl rfl rfl (fr_ble rfl) o1 (fr_ble rfl) (ct_B_add ho (fun z => by omega) (fun _ g hg hag => ?_))
  rw [show Int32.ofInt 1 &&& 255 = 1 from by decide] at hg
  have h1a := hag.at (by omega) h1
  (repeat (first | refine pm_W.ts rfl rfl ?_ | refine pm_W.tl rfl rfl ?_ | refine pm_W.get rfl rfl h1a rfl ?_))
  refine pm_W.iald rfl (hag.at (by omega) h3) (pm_ix_ok (j := s) (by rw [List.length_map]; omega) (by rw [List.length_map]; omega)) ?_
  rw [fr_mapD]
  obtain ⟨ys2, o2, -⟩ := id hg
  refine pm_W.callV (d' := 0) rfl rfl rfl rfl (fr_ble rfl) o2 (fr_ble rfl) (ct_B_add hg (fun z => by rw [List.length_append, List.length_singleton] at z; omega) (fun _ g2 hg2 hag2 => ?_))
  rw [show nI (S.2.1.getD s 0) &&& 255 = nI (tr_N S s) from fr_255 (tr_N S s) (by omega)] at hg2
  have hBs2 := (hBs.ag hag (by omega)).ag hag2 (by omega)
  obtain ⟨ys3, b3, -⟩ := id hBs2
  (repeat (first | refine pm_W.ts rfl rfl ?_ | refine pm_W.tl rfl rfl ?_))
  refine pm_W.callV (d' := 0) rfl rfl rfl rfl (fr_ble rfl) b3 (fr_ble rfl) (ct_B_count hBs2 ?_)
  obtain ⟨ys4, o4, -⟩ := id hg2
  refine pm_W.callV (d' := 0) rfl rfl rfl rfl (fr_ble rfl) o4 (fr_ble rfl) (ct_B_add hg2 (fun z => by simp only [List.length_append, List.length_singleton] at z; omega) (fun _ g3 hg3 hag3 => ?_))
  rw [fr_255 _ (by omega)] at hg3
  have hBs3 := hBs2.ag hag3 (by omega)
  obtain ⟨ys5, b5, -⟩ := id hBs3
  (repeat (first | refine pm_W.ts rfl rfl ?_ | refine pm_W.tl rfl rfl ?_))
  refine pm_W.callV (d' := 0) rfl rfl rfl rfl (fr_ble rfl) b5 (fr_ble rfl) (ct_B_count hBs3 ?_)
  obtain ⟨ys6, o6, -⟩ := id hg3
  refine pm_W.callV rfl rfl rfl rfl (fr_ble rfl) o6 (fr_ble rfl) (ct_B_addFrom hg3 hBs3 (by omega) (by simp only [List.length_append, List.length_singleton]; omega) (fun g4 hg4 hag4 => ?_))
  rw [show bt_from (tr_B S s) (Int32.ofInt 0) (tr_B S s).length = tr_B S s from bt_from_all hB (by omega)] at hg4
  refine pm_W.ret rfl rfl (k g4 ?_ (((hag.tr hag2).tr hag3).tr hag4))
  rw [ws_file]
  simpa [List.append_assoc] using hg4
theorem ct_T_writeStream (hb : tr_R h a S) (hB : ∀ s, s < 11 → tr_K S s = 1 → bt_ok (tr_B S s)) (ho : bt_R h o ro os) (hd : o + 2 ≤ a ∨ a + 27 ≤ o) (hl : (ws_out S).length ≤ ro)
    (k : ∀ h' : pm_H, bt_R h' o ro (ws_out S) → fr_ag o (o + 2) h h' → Q none h') : pm_X xs 4 mT_writeStream [.ref a, .ref o] h Q := by
  obtain ⟨-, -, -, -, -, -, l1, l2, l3, bK, bN, bP⟩ := id hb
  have loop : ∀ (f i : Nat) (q : ws_Q) (g : pm_H) (v : Value), i + f = 22 → (∀ e, q.1 = some e → e ≤ 10) → q.2.1 ≤ 31 → ws_run S f q = ws_run S 22 (some 0, 0, []) → bt_R g o ro q.2.2 → fr_ag o (o + 2) h g → pm_W xs 4 mT_writeStream 11 [.ref a, .ref o, .int (tr_pv q.1), .int (nI q.2.1), .int (nI i), v] [] g Q := by
    intro f
    induction f with
    | zero =>
      intro i q g v hi hq1 hq2 he hg hag
      (repeat (first | refine pm_W.ts rfl rfl ?_ | refine pm_W.tl rfl rfl ?_))
      refine pm_W.icmp rfl (fun c => ?_) (fun c => ?_)
      · refine pm_W.ret rfl rfl (k g ?_ hag)
        rw [ws_out, ← he]
        exact hg
      · have c : ¬ nI 22 ≤ nI i := c
        rw [nI_leI (by omega) (by omega)] at c
        omega
    | succ f ih =>
      intro i q g v hi hq1 hq2 he hg hag
      obtain ⟨qd, w, out⟩ := q
      replace hg : bt_R g o ro out := hg
      replace hq1 : ∀ e, qd = some e → e ≤ 10 := hq1
      replace hq2 : w ≤ 31 := hq2
      have hgT := hb.ag hag (by omega)
      obtain ⟨h1, h2, h3, h4, h5, h6, -⟩ := id hgT
      have hro : ro ≤ 1000 := by obtain ⟨ys, -, -, -, -, -, g⟩ := id hg; exact g
      (repeat (first | refine pm_W.ts rfl rfl ?_ | refine pm_W.tl rfl rfl ?_))
      refine pm_W.icmp rfl (fun c => ?_) (fun c => ?_)
      · have c : nI 22 ≤ nI i := c
        rw [nI_leI (by omega) (by omega)] at c
        omega
      · (repeat (first | refine pm_W.ts rfl rfl ?_ | refine pm_W.tl rfl rfl ?_))
        refine pm_W.icmp rfl (fun c2 => ?_) (fun c2 => ?_)
        · have c2 : tr_pv qd = -1 := c2
          rw [tr_pv_none hq1] at c2
          subst c2
          refine pm_W.ret rfl rfl (k g ?_ hag)
          rw [ws_out, ← he]
          exact hg
        · have c2 : ¬ tr_pv qd = -1 := c2
          rw [tr_pv_none hq1] at c2
          cases qd with
          | none => exact absurd rfl c2
          | some d =>
            have hd10 : d ≤ 10 := hq1 d rfl
            have he2 : ws_run S f (ws_step S d w out) = ws_run S 22 (some 0, 0, []) := he
            have hlen : (ws_step S d w out).2.2.length ≤ ro := by
              have := ws_run_len (S := S) f (ws_step S d w out)
              rw [he2] at this
              exact Nat.le_trans this hl
            (repeat (first | refine pm_W.ts rfl rfl ?_ | refine pm_W.tl rfl rfl ?_))
            refine pm_W.callV (d' := 1) rfl rfl rfl rfl (fr_ble rfl) h1 (fr_ble rfl) (ct_T_childBehind hgT hd10 hq2 ?_)
            cases hbest : tr_best (tr_c S d) (tr_N S) w 10 with
            | none =>
              have hst : ws_step S d w out = (tr_P S d, tr_N S d, out ++ [9, nI (tr_cnt (tr_c S d) 10)]) := by unfold ws_step; rw [hbest]
              rw [hst] at he2 hlen
              have hlen : (out ++ [9, nI (tr_cnt (tr_c S d) 10)]).length ≤ ro := hlen
              rw [List.length_append] at hlen
              simp only [List.length_cons, List.length_nil] at hlen
              have hcnt := tr_cnt_le (f := tr_c S d) 10
              obtain ⟨ys, o1, -⟩ := id hg
              (repeat (first | refine pm_W.ts rfl rfl ?_ | refine pm_W.tl rfl rfl ?_))
              refine pm_W.icmp rfl (fun c3 => absurd rfl c3) (fun c3 => ?_)
              (repeat (first | refine pm_W.ts rfl rfl ?_ | refine pm_W.tl rfl rfl ?_))
              refine pm_W.callV (d' := 0) rfl rfl rfl rfl (fr_ble rfl) o1 (fr_ble rfl) (ct_B_add hg (fun z => by omega) (fun _ g2 hg2 hag2 => ?_))
              rw [show (Int8.ofInt 9).toInt32 &&& 255 = 9 from by decide] at hg2
              have hgT2 := hgT.ag hag2 (by omega)
              obtain ⟨k1, k2, k3, k4, -⟩ := id hgT2
              obtain ⟨ys2, o2, -⟩ := id hg2
              (repeat (first | refine pm_W.ts rfl rfl ?_ | refine pm_W.tl rfl rfl ?_))
              refine pm_W.callV (d' := 1) rfl rfl rfl rfl (fr_ble rfl) k1 (fr_ble rfl) (ct_T_childrenOf hgT2 hd10 ?_)
              refine pm_W.callV (d' := 0) rfl rfl rfl rfl (fr_ble rfl) o2 (fr_ble rfl) (ct_B_add hg2 (fun z => by rw [List.length_append, List.length_singleton] at z; omega) (fun _ g3 hg3 hag3 => ?_))
              rw [fr_255 _ (by omega)] at hg3
              have m1 := hag3.at (by omega) k1
              (repeat (first | refine pm_W.ts rfl rfl ?_ | refine pm_W.tl rfl rfl ?_ | refine pm_W.get rfl rfl m1 rfl ?_))
              refine pm_W.iald rfl (hag3.at (by omega) k3) (pm_ix_ok (j := d) (by rw [List.length_map]; omega) (by rw [List.length_map]; omega)) ?_
              rw [fr_mapD]
              (repeat (first | refine pm_W.ts rfl rfl ?_ | refine pm_W.tl rfl rfl ?_ | refine pm_W.get rfl rfl m1 rfl ?_))
              refine pm_W.iald rfl (hag3.at (by omega) k4) (pm_ix_ok (j := d) (by rw [List.length_map]; omega) (by rw [List.length_map]; omega)) ?_
              rw [tr_mapP (by omega)]
              (iterate 1 (first | refine pm_W.ts rfl rfl ?_ | refine pm_W.tl rfl rfl ?_))
              refine pm_W.goto rfl ?_
              (iterate 1 (first | refine pm_W.ts rfl rfl ?_ | refine pm_W.tl rfl rfl ?_))
              refine pm_W.goto rfl ?_
              have := ih (i + 1) (tr_P S d, tr_N S d, out ++ [9, nI (tr_cnt (tr_c S d) 10)]) g3 (.int (-1)) (by omega) (bP d) (bN d) he2 (by simpa [List.append_assoc] using hg3) ((hag.tr hag2).tr hag3)
              rw [← fr_inc i] at this
              exact this
            | some c =>
              have hc := tr_best_le 10 c hbest
              have hk := bK c
              have hNc := bN c
              (repeat (first | refine pm_W.ts rfl rfl ?_ | refine pm_W.tl rfl rfl ?_))
              refine pm_W.icmp rfl (fun c3 => ?_) (fun c3 => ?_)
              · (repeat (first | refine pm_W.ts rfl rfl ?_ | refine pm_W.tl rfl rfl ?_ | refine pm_W.get rfl rfl h1 rfl ?_))
                refine pm_W.iald rfl h2 (pm_ix_ok (j := c) (by rw [List.length_map]; omega) (by rw [List.length_map]; omega)) ?_
                rw [fr_mapD]
                (repeat (first | refine pm_W.ts rfl rfl ?_ | refine pm_W.tl rfl rfl ?_))
                refine pm_W.icmp rfl (fun c4 => ?_) (fun c4 => ?_)
                · have c4 : ¬ nI (tr_K S c) = nI 1 := c4
                  rw [nI_eq (by omega) (by omega)] at c4
                  have hst : ws_step S d w out = (some c, 0, out ++ [2, nI (tr_N S c)]) := by unfold ws_step; rw [hbest]; show (if _ then _ else _) = _; rw [if_neg c4]
                  rw [hst] at he2 hlen
                  have hlen : (out ++ [2, nI (tr_N S c)]).length ≤ ro := hlen
                  rw [List.length_append] at hlen
                  simp only [List.length_cons, List.length_nil] at hlen
                  obtain ⟨ys, o1, -⟩ := id hg
                  (repeat (first | refine pm_W.ts rfl rfl ?_ | refine pm_W.tl rfl rfl ?_))
                  refine pm_W.callV (d' := 0) rfl rfl rfl rfl (fr_ble rfl) o1 (fr_ble rfl) (ct_B_add hg (fun z => by omega) (fun _ g2 hg2 hag2 => ?_))
                  rw [show Int32.ofInt 2 &&& 255 = 2 from by decide] at hg2
                  have m1 := hag2.at (by omega) h1
                  obtain ⟨ys2, o2, -⟩ := id hg2
                  (repeat (first | refine pm_W.ts rfl rfl ?_ | refine pm_W.tl rfl rfl ?_ | refine pm_W.get rfl rfl m1 rfl ?_))
                  refine pm_W.iald rfl (hag2.at (by omega) h3) (pm_ix_ok (j := c) (by rw [List.length_map]; omega) (by rw [List.length_map]; omega)) ?_
                  rw [fr_mapD]
                  refine pm_W.callV (d' := 0) rfl rfl rfl rfl (fr_ble rfl) o2 (fr_ble rfl) (ct_B_add hg2 (fun z => by rw [List.length_append, List.length_singleton] at z; omega) (fun _ g3 hg3 hag3 => ?_))
                  rw [show nI (S.2.1.getD c 0) &&& 255 = nI (tr_N S c) from fr_255 (tr_N S c) (by omega)] at hg3
                  (iterate 6 (first | refine pm_W.ts rfl rfl ?_ | refine pm_W.tl rfl rfl ?_))
                  refine pm_W.goto rfl ?_
                  have := ih (i + 1) (some c, 0, out ++ [2, nI (tr_N S c)]) g3 (.int (nI c)) (by omega) (fun e he => by cases he; omega) (by show 0 ≤ 31; omega) he2 (by simpa [List.append_assoc] using hg3) ((hag.tr hag2).tr hag3)
                  rw [← fr_inc i] at this
                  exact this
                · have c4 : ¬ ¬ nI (tr_K S c) = nI 1 := c4
                  have c4 := Classical.not_not.mp c4
                  rw [nI_eq (by omega) (by omega)] at c4
                  have hst : ws_step S d w out = (some d, tr_N S c, out ++ ws_file S c) := by unfold ws_step; rw [hbest]; show (if _ then _ else _) = _; rw [if_pos c4]
                  rw [hst] at he2 hlen
                  (repeat (first | refine pm_W.ts rfl rfl ?_ | refine pm_W.tl rfl rfl ?_))
                  refine pm_W.callV rfl rfl rfl rfl (fr_ble rfl) h1 (fr_ble rfl) (ct_T_writeFile hgT (by omega) (hB c (by omega) c4) hg hd hlen (fun g2 hg2 hag2 => ?_))
                  have m1 := hag2.at (by omega) h1
                  (repeat (first | refine pm_W.ts rfl rfl ?_ | refine pm_W.tl rfl rfl ?_ | refine pm_W.get rfl rfl m1 rfl ?_))
                  refine pm_W.iald rfl (hag2.at (by omega) h3) (pm_ix_ok (j := c) (by rw [List.length_map]; omega) (by rw [List.length_map]; omega)) ?_
                  rw [fr_mapD]
                  (iterate 1 (first | refine pm_W.ts rfl rfl ?_ | refine pm_W.tl rfl rfl ?_))
                  refine pm_W.goto rfl ?_
                  (iterate 1 (first | refine pm_W.ts rfl rfl ?_ | refine pm_W.tl rfl rfl ?_))
                  refine pm_W.goto rfl ?_
                  have := ih (i + 1) (some d, tr_N S c, out ++ ws_file S c) g2 (.int (nI c)) (by omega) hq1 hNc he2 hg2 (hag.tr hag2)
                  rw [← fr_inc i] at this
                  exact this
              · have c3 : ¬ ¬ nI c = Int32.ofInt (-1) := c3
                have c3 := Classical.not_not.mp c3
                have : (nI c).toInt = -1 := by rw [c3]; rfl
                rw [nI_toInt (by omega)] at this
                omega
  obtain ⟨ys, o1, -⟩ := id ho
  unfold pm_X
  (repeat (first | refine pm_W.ts rfl rfl ?_ | refine pm_W.tl rfl rfl ?_))
  refine pm_W.callV (d' := 0) rfl rfl rfl rfl (fr_ble rfl) o1 (fr_ble rfl) (ct_B_clear ho (fun g hg hag => ?_))
  (iterate 6 (first | refine pm_W.ts rfl rfl ?_ | refine pm_W.tl rfl rfl ?_))
  exact loop 22 0 (some 0, 0, []) g pm_none (by omega) (fun e he => by cases he; omega) (by show 0 ≤ 31; omega) rfl hg hag
end STREAM
