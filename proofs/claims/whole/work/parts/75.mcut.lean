def mb (A : Nat → List Int32) (f : Nat) (bs : List Int32) : Prop := ∀ k, k < bs.length → (A 1).getD (f + k) 0 = bs.getD k 0
def mlp (A : Nat → List Int32) (l : Nat) (ps : dp_P) : Prop := ps.length ≤ 15 ∧ ∀ k, k < ps.length → (A 8).getD (16 * l + k) 0 = nI (pl_s ps k) ∧ (A 9).getD (16 * l + k) 0 = nI (ex_n ps k) ∧ (A 10).getD (16 * l + k) 0 = pl_i ps k
def ml (A : Nat → List Int32) (l : Nat) (ps : dp_P) : Prop := (A 7).getD l 0 = nI ps.length ∧ mlp A l ps
theorem mp_e_app {ps qs : dp_P} {k : Nat} (hk : k < ps.length) : pl_e (ps ++ qs) k = pl_e ps k := by
  unfold pl_e
  rw [List.getD_eq_getElem?_getD, List.getElem?_append_left hk, List.getD_eq_getElem?_getD]
theorem mp_i_app {ps qs : dp_P} {k : Nat} (hk : k < ps.length) : pl_i (ps ++ qs) k = pl_i ps k := by
  unfold pl_i
  rw [List.getD_eq_getElem?_getD, List.getElem?_append_left hk, List.getD_eq_getElem?_getD]
theorem mp_s_app {ps qs : dp_P} {k : Nat} (hk : k ≤ ps.length) : pl_s (ps ++ qs) k = pl_s ps k := by
  cases k with
  | zero => rfl
  | succ k => exact mp_e_app (by omega)
theorem mp_e_end {ps : dp_P} {q : Nat × Int32} : pl_e (ps ++ [q]) ps.length = q.1 := by
  unfold pl_e
  rw [List.getD_eq_getElem?_getD, List.getElem?_append_right (Nat.le_refl _), Nat.sub_self]
  rfl
theorem mp_i_end {ps : dp_P} {q : Nat × Int32} : pl_i (ps ++ [q]) ps.length = q.2 := by
  unfold pl_i
  rw [List.getD_eq_getElem?_getD, List.getElem?_append_right (Nat.le_refl _), Nat.sub_self]
  rfl
theorem cz_s {z : cz_N} {bs : List Int32} : ∀ e, pl_s (cz_cut z bs e).1 (cz_cut z bs e).1.length = (cz_cut z bs e).2 := by
  intro e
  induction e with
  | zero => rfl
  | succ e ih =>
    unfold cz_cut
    split
    · show pl_s ((cz_cut z bs e).1 ++ [_]) ((cz_cut z bs e).1 ++ [_]).length = e + 1
      rw [List.length_append, List.length_singleton]
      exact mp_e_end
    · exact ih
section MCUT
variable {xs : List Int32} {h : pm_H} {o : Nat} {A : Nat → List Int32} {I : Nat → Int32} {z : cz_N} {bs : List Int32} {Q : Option Value → pm_H → Prop}
theorem ct_M_term {j : Nat} (hb : mr_R h o A I) (hj : j < 1952) (k : Q (some (.int (cz_T ((A 1).getD j 0)))) h) : pm_X xs 0 mM_term [.ref o, .int (nI j)] h Q := by
  have h1 := hb.1
  unfold pm_X
  (repeat (first | refine pm_W.ts rfl rfl ?_ | refine pm_W.tl rfl rfl ?_ | refine pm_W.get rfl rfl h1 rfl ?_))
  refine mr_ld (i := 1) hb rfl rfl rfl rfl (show j < 1952 from hj) ?_
  (repeat (first | refine pm_W.ts rfl rfl ?_ | refine pm_W.tl rfl rfl ?_))
  refine pm_W.ldc rfl rfl ?_
  (repeat (first | refine pm_W.ts rfl rfl ?_ | refine pm_W.tl rfl rfl ?_))
  exact pm_W.iret rfl rfl k
theorem ct_M_turned {y w : Int32} (k : Q (some (.int (cz_L y w))) h) : pm_X xs 0 mM_turned [.int y, .int w] h Q := by
  unfold pm_X
  (repeat (first | refine pm_W.ts rfl rfl ?_ | refine pm_W.tl rfl rfl ?_))
  exact pm_W.iret rfl rfl k
theorem ct_M_mark {j : Nat} (hb : mr_R h o A I) (h3 : 3 ≤ j) (hj : j < 1952) (k : Q (some (.int (cz_M ((A 1).getD (j - 3) 0) ((A 1).getD (j - 2) 0) ((A 1).getD (j - 1) 0) ((A 1).getD j 0)))) h) : pm_X xs 1 mM_mark [.ref o, .int (nI j)] h Q := by
  have h1 := hb.1
  have e1 : nI j - Int32.ofInt 3 = nI (j - 3) := fr_sub (j := 3) h3
  have e2 : nI j - Int32.ofInt 2 = nI (j - 2) := fr_sub (j := 2) (by omega)
  have e3 : nI j - Int32.ofInt 1 = nI (j - 1) := fr_sub (j := 1) (by omega)
  unfold pm_X
  (repeat (first | refine pm_W.ts rfl rfl ?_ | refine pm_W.tl rfl rfl ?_))
  rw [e1]
  refine pm_W.callV (d' := 0) (as := [.int (nI (j - 3))]) rfl rfl rfl rfl (fr_ble rfl) h1 (fr_ble rfl) (ct_M_term hb (by omega) ?_)
  (iterate 1 (first | refine pm_W.ts rfl rfl ?_ | refine pm_W.tl rfl rfl ?_))
  refine pm_W.callS (d' := 0) rfl rfl rfl rfl (fr_ble rfl) (fr_ble rfl) (ct_M_turned ?_)
  (repeat (first | refine pm_W.ts rfl rfl ?_ | refine pm_W.tl rfl rfl ?_))
  rw [e2]
  refine pm_W.callV (d' := 0) (as := [.int (nI (j - 2))]) rfl rfl rfl rfl (fr_ble rfl) h1 (fr_ble rfl) (ct_M_term hb (by omega) ?_)
  (iterate 1 (first | refine pm_W.ts rfl rfl ?_ | refine pm_W.tl rfl rfl ?_))
  refine pm_W.callS (d' := 0) rfl rfl rfl rfl (fr_ble rfl) (fr_ble rfl) (ct_M_turned ?_)
  (repeat (first | refine pm_W.ts rfl rfl ?_ | refine pm_W.tl rfl rfl ?_))
  rw [e3]
  refine pm_W.callV (d' := 0) (as := [.int (nI (j - 1))]) rfl rfl rfl rfl (fr_ble rfl) h1 (fr_ble rfl) (ct_M_term hb (by omega) ?_)
  (iterate 1 (first | refine pm_W.ts rfl rfl ?_ | refine pm_W.tl rfl rfl ?_))
  refine pm_W.callS (d' := 0) rfl rfl rfl rfl (fr_ble rfl) (fr_ble rfl) (ct_M_turned ?_)
  (repeat (first | refine pm_W.ts rfl rfl ?_ | refine pm_W.tl rfl rfl ?_))
  refine pm_W.callV (d' := 0) (as := [.int (nI j)]) rfl rfl rfl rfl (fr_ble rfl) h1 (fr_ble rfl) (ct_M_term hb (by omega) ?_)
  (repeat (first | refine pm_W.ts rfl rfl ?_ | refine pm_W.tl rfl rfl ?_))
  exact pm_W.iret rfl rfl k
theorem ct_M_digest {f s n : Nat} (hb : mr_R h o A I) (hm : mb A f bs) (hl : bs.length ≤ 1000) (hs : s + n ≤ bs.length) (hf : f + bs.length ≤ 1952) (k : Q (some (.int (bt_id bs (nI s) n))) h) : pm_X xs 0 mM_digest [.ref o, .int (nI (f + s)), .int (nI n)] h Q := by
  have h1 := hb.1
  have loop : ∀ (r i : Nat), i + r = n → pm_W xs 0 mM_digest 6 [.ref o, .int (nI (f + s)), .int (nI n), .int (bt_fold bs (nI s) i), .int (nI i)] [] h Q := by
    intro r
    induction r with
    | zero =>
      intro i hi
      have e : i = n := by omega
      subst e
      (repeat (first | refine pm_W.ts rfl rfl ?_ | refine pm_W.tl rfl rfl ?_))
      refine pm_W.icmp rfl (fun _ => ?_) (fun c => ?_)
      · (repeat (first | refine pm_W.ts rfl rfl ?_ | refine pm_W.tl rfl rfl ?_))
        exact pm_W.iret rfl rfl k
      · have c : ¬ nI i ≤ nI i := c
        rw [nI_leI (by omega) (by omega)] at c
        omega
    | succ r ih =>
      intro i hi
      (repeat (first | refine pm_W.ts rfl rfl ?_ | refine pm_W.tl rfl rfl ?_))
      refine pm_W.icmp rfl (fun c => ?_) (fun _ => ?_)
      · have c : nI n ≤ nI i := c
        rw [nI_leI (by omega) (by omega)] at c
        omega
      · (repeat (first | refine pm_W.ts rfl rfl ?_ | refine pm_W.tl rfl rfl ?_ | refine pm_W.get rfl rfl h1 rfl ?_))
        rw [nI_add]
        refine mr_ld (i := 1) hb rfl rfl rfl rfl (show f + s + i < 1952 by omega) ?_
        have e := hm (s + i) (by omega)
        rw [← Nat.add_assoc] at e
        rw [e, ← bt_at_D (bs := bs) (by omega) hl, ← nI_add s i]
        (repeat (first | refine pm_W.ts rfl rfl ?_ | refine pm_W.tl rfl rfl ?_))
        refine pm_W.ldc rfl rfl ?_
        (repeat (first | refine pm_W.ts rfl rfl ?_ | refine pm_W.tl rfl rfl ?_))
        refine pm_W.goto rfl ?_
        rw [fr_inc]
        exact ih (i + 1) (by omega)
  unfold pm_X
  (iterate 4 (first | refine pm_W.ts rfl rfl ?_ | refine pm_W.tl rfl rfl ?_))
  exact loop n 0 (by omega)
end MCUT
