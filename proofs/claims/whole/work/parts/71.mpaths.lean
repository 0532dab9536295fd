theorem fr_smod {j : Nat} (hj : j < 32) : (BitVec.ofNat 32 j).smod 32 = BitVec.ofNat 32 j := by
  have : ∀ j, j < 32 → (BitVec.ofNat 32 j).smod 32 = BitVec.ofNat 32 j := by decide
  exact this j hj
theorem fr_shr {p j : Nat} (hp : p < 2 ^ 31) (hj : j < 32) : nI p >>> (nI j &&& 31) = nI (p / 2 ^ j) := by
  have e : nI j &&& 31 = nI j := by
    have := fr_mask (a := j) 5
    rw [show j % 2 ^ 5 = j by omega] at this
    exact this
  rw [e]
  apply Int32.toBitVec_inj.mp
  rw [Int32.toBitVec_shiftRight]
  show (BitVec.ofNat 32 p).sshiftRight' ((BitVec.ofNat 32 j).smod 32) = BitVec.ofNat 32 (p / 2 ^ j)
  rw [fr_smod hj]
  show (BitVec.ofNat 32 p).sshiftRight (BitVec.ofNat 32 j).toNat = _
  have hq : p / 2 ^ j ≤ p := Nat.div_le_self _ _
  have msb : (BitVec.ofNat 32 p).msb = false := by
    rw [BitVec.msb_eq_false_iff_two_mul_lt, BitVec.toNat_ofNat, Nat.mod_eq_of_lt (show p < 2 ^ 32 by omega)]
    omega
  rw [BitVec.sshiftRight_eq_of_msb_false msb]
  apply BitVec.eq_of_toNat_eq
  rw [BitVec.toNat_ushiftRight, BitVec.toNat_ofNat, BitVec.toNat_ofNat, BitVec.toNat_ofNat, Nat.shiftRight_eq_div_pow, Nat.mod_eq_of_lt (show p < 2 ^ 32 by omega), Nat.mod_eq_of_lt (show j < 2 ^ 32 by omega), Nat.mod_eq_of_lt (show p / 2 ^ j < 2 ^ 32 by omega)]
theorem fr_or {k r : Nat} (hr : r < 2 ^ 5) : nI (k * 2 ^ 5) ||| nI r = nI (k * 2 ^ 5 + r) := by
  have h1 : nI (k * 2 ^ 5) ||| nI r = nI (k * 2 ^ 5 ||| r) := by
    apply Int32.toBitVec_inj.mp
    show BitVec.ofNat 32 (k * 2 ^ 5) ||| BitVec.ofNat 32 r = BitVec.ofNat 32 (k * 2 ^ 5 ||| r)
    apply BitVec.eq_of_toNat_eq
    simp only [BitVec.toNat_or, BitVec.toNat_ofNat, Nat.or_mod_two_pow]
  rw [h1, Nat.mul_comm, ← Nat.two_pow_add_eq_or_of_lt hr]
theorem fr_low {p : Nat} (hp : p < 2 ^ 32) (h : 0 ≤ nI p) : p < 2 ^ 31 := by
  obtain ⟨j, hj, e⟩ := fr_nat h
  have e2 := congrArg (fun x : Int32 => x.toUInt32.toNat) e
  have e2 : (UInt32.ofNat p).toNat = (UInt32.ofNat j).toNat := e2
  rw [UInt32.toNat_ofNat', UInt32.toNat_ofNat'] at e2
  omega
def od (p : Nat) : Nat → Nat
  | 0 => 0
  | i + 1 => od p i * 2 ^ 5 + pa_n p i
section MPATH
variable {xs : List Int32} {h : pm_H} {o p : Nat} {A : Nat → List Int32} {I : Nat → Int32} {T : te_T} {Q : Option Value → pm_H → Prop}
theorem pa_n_lt {p i : Nat} : pa_n p i < 32 := Nat.mod_lt _ (by omega)
theorem mn_at {d : Nat} (hp : p < 2 ^ 31) (hd : d ≤ 5) : (nI p >>> ((nI 5 * nI d) &&& 31)) &&& nI (2 ^ 5 - 1) = nI (pa_n p d) := by
  rw [fr_mul, fr_shr hp (by omega), fr_mask]
  rfl
theorem ct_M_depth (hp : p < 2 ^ 31) (k : Q (some (.int (nI (pa_d p)))) h) : pm_X xs 0 mM_depth [.int (nI p)] h Q := by
  have loop : ∀ (r d : Nat), d + r = 6 → pa_dr p r d = pa_d p → pm_W xs 0 mM_depth 2 [.int (nI p), .int (nI d)] [] h Q := by
    intro r
    induction r with
    | zero =>
      intro d hd he
      (repeat (first | refine pm_W.ts rfl rfl ?_ | refine pm_W.tl rfl rfl ?_))
      refine pm_W.icmp rfl (fun c => ?_) (fun c => ?_)
      · (repeat (first | refine pm_W.ts rfl rfl ?_ | refine pm_W.tl rfl rfl ?_))
        refine pm_W.iret rfl rfl ?_
        rw [show d = pa_d p from he]
        exact k
      · have c : ¬ nI 6 ≤ nI d := c
        rw [nI_leI (by omega) (by omega)] at c
        omega
    | succ r ih =>
      intro d hd he
      (repeat (first | refine pm_W.ts rfl rfl ?_ | refine pm_W.tl rfl rfl ?_))
      refine pm_W.icmp rfl (fun c => ?_) (fun c => ?_)
      · have c : nI 6 ≤ nI d := c
        rw [nI_leI (by omega) (by omega)] at c
        omega
      · (repeat (first | refine pm_W.ts rfl rfl ?_ | refine pm_W.tl rfl rfl ?_))
        have hlt : pa_n p d < 2 ^ 31 := by unfold pa_n; omega
        have e := mn_at (p := p) (d := d) hp (by omega)
        refine pm_W.ifz rfl (fun c2 => ?_) (fun c2 => ?_)
        · have c2 : (nI p >>> ((nI 5 * nI d) &&& 31)) &&& nI (2 ^ 5 - 1) = nI 0 := c2
          rw [e, nI_eq hlt (by omega)] at c2
          (repeat (first | refine pm_W.ts rfl rfl ?_ | refine pm_W.tl rfl rfl ?_))
          refine pm_W.iret rfl rfl ?_
          unfold pa_dr at he
          rw [if_pos c2] at he
          rw [he]
          exact k
        · have c2 : ¬ (nI p >>> ((nI 5 * nI d) &&& 31)) &&& nI (2 ^ 5 - 1) = nI 0 := c2
          rw [e, nI_eq hlt (by omega)] at c2
          (repeat (first | refine pm_W.ts rfl rfl ?_ | refine pm_W.tl rfl rfl ?_))
          refine pm_W.goto rfl ?_
          unfold pa_dr at he
          rw [if_neg c2] at he
          have := ih (d + 1) (by omega) he
          rw [← fr_inc] at this
          exact this
  unfold pm_X
  (iterate 2 (first | refine pm_W.ts rfl rfl ?_ | refine pm_W.tl rfl rfl ?_))
  exact loop 6 0 (by omega) rfl
theorem ct_M_isPath (hp : p < 2 ^ 32) (k : Q (some (.int (fr_b (pa_ok p)))) h) : pm_X xs 1 mM_isPath [.int (nI p)] h Q := by
  have hd := (pa_d_spec p).1
  have no : ¬ pa_ok p = true → pm_W xs 1 mM_isPath 26 [.int (nI p)] [] h Q := by
    intro c
    have c : pa_ok p = false := Bool.eq_false_iff.mpr c
    (repeat (first | refine pm_W.ts rfl rfl ?_ | refine pm_W.tl rfl rfl ?_))
    refine pm_W.iret rfl rfl ?_
    rw [c] at k
    exact k
  unfold pm_X
  (repeat (first | refine pm_W.ts rfl rfl ?_ | refine pm_W.tl rfl rfl ?_))
  refine pm_W.ifz rfl (fun c => no (fun z => nI_pos (by have := pa_ok_30 z; omega) c)) (fun c => ?_)
  have hp31 := fr_low hp (fr_nlt c)
  (repeat (first | refine pm_W.ts rfl rfl ?_ | refine pm_W.tl rfl rfl ?_))
  refine pm_W.ifz rfl (fun c2 => no (fun z => ?_)) (fun c2 => ?_)
  · have c2 : ¬ nI p >>> (nI 30 &&& 31) = nI 0 := c2
    rw [fr_shr hp31 (by omega)] at c2
    have := pa_ok_30 z
    rw [Nat.div_eq_of_lt (by omega)] at c2
    exact c2 rfl
  · (iterate 3 (first | refine pm_W.ts rfl rfl ?_ | refine pm_W.tl rfl rfl ?_))
    refine pm_W.callS (d' := 0) rfl rfl rfl rfl (fr_ble rfl) (fr_ble rfl) (ct_M_depth hp31 ?_)
    (repeat (first | refine pm_W.ts rfl rfl ?_ | refine pm_W.tl rfl rfl ?_))
    have hq : p / 2 ^ (5 * pa_d p) ≤ p := Nat.div_le_self _ _
    have e : nI p >>> ((nI 5 * nI (pa_d p)) &&& 31) = nI (p / 2 ^ (5 * pa_d p)) := by rw [fr_mul, fr_shr hp31 (by omega)]
    refine pm_W.ifz rfl (fun c3 => no (fun z => ?_)) (fun c3 => ?_)
    · have c3 : ¬ nI p >>> ((nI 5 * nI (pa_d p)) &&& 31) = nI 0 := c3
      rw [e, of_decide_eq_true z] at c3
      exact c3 rfl
    · have c3 : ¬ ¬ nI p >>> ((nI 5 * nI (pa_d p)) &&& 31) = nI 0 := c3
      rw [e, nI_eq (by omega) (by omega)] at c3
      have z : pa_ok p = true := decide_eq_true (Decidable.not_not.mp c3)
      (repeat (first | refine pm_W.ts rfl rfl ?_ | refine pm_W.tl rfl rfl ?_))
      refine pm_W.goto rfl ?_
      refine pm_W.iret rfl rfl ?_
      rw [z] at k
      exact k
theorem ct_M_up (hp : p < 2 ^ 31) (hd1 : 1 ≤ pa_d p) (k : Q (some (.int (nI (pa_up p)))) h) : pm_X xs 1 mM_up [.int (nI p)] h Q := by
  have hd := (pa_d_spec p).1
  unfold pm_X
  (iterate 4 (first | refine pm_W.ts rfl rfl ?_ | refine pm_W.tl rfl rfl ?_))
  refine pm_W.callS (d' := 0) rfl rfl rfl rfl (fr_ble rfl) (fr_ble rfl) (ct_M_depth hp ?_)
  (repeat (first | refine pm_W.ts rfl rfl ?_ | refine pm_W.tl rfl rfl ?_))
  refine pm_W.iret rfl rfl ?_
  have e : nI p &&& ((nI 1 <<< ((nI 5 * (nI (pa_d p) - nI 1)) &&& 31)) - nI 1) = nI (pa_up p) := by
    rw [fr_sub (j := 1) hd1, fr_mul, fr_shl (by omega), fr_sub (j := 1) (by rw [Nat.one_mul]; exact Nat.two_pow_pos _), Nat.one_mul, fr_mask]
    rfl
  rw [← e] at k
  exact k
theorem ct_M_order (hp : p < 2 ^ 31) (k : Q (some (.int (nI (od p 6)))) h) : pm_X xs 0 mM_order [.int (nI p)] h Q := by
  have loop : ∀ (r i : Nat), i + r = 6 → pm_W xs 0 mM_order 4 [.int (nI p), .int (nI (od p i)), .int (nI i)] [] h Q := by
    intro r
    induction r with
    | zero =>
      intro i hi
      have e : i = 6 := by omega
      subst e
      (repeat (first | refine pm_W.ts rfl rfl ?_ | refine pm_W.tl rfl rfl ?_))
      refine pm_W.icmp rfl (fun c => ?_) (fun c => ?_)
      · (repeat (first | refine pm_W.ts rfl rfl ?_ | refine pm_W.tl rfl rfl ?_))
        exact pm_W.iret rfl rfl k
      · have c : ¬ nI 6 ≤ nI 6 := c
        rw [nI_leI (by omega) (by omega)] at c
        omega
    | succ r ih =>
      intro i hi
      (repeat (first | refine pm_W.ts rfl rfl ?_ | refine pm_W.tl rfl rfl ?_))
      refine pm_W.icmp rfl (fun c => ?_) (fun c => ?_)
      · have c : nI 6 ≤ nI i := c
        rw [nI_leI (by omega) (by omega)] at c
        omega
      · have e : (nI (od p i) <<< (nI 5 &&& 31)) ||| ((nI p >>> ((nI 5 * nI i) &&& 31)) &&& nI (2 ^ 5 - 1)) = nI (od p (i + 1)) := by
          rw [mn_at hp (by omega), fr_shl (by omega), fr_or pa_n_lt]
          rfl
        (repeat (first | refine pm_W.ts rfl rfl ?_ | refine pm_W.tl rfl rfl ?_))
        refine pm_W.goto rfl ?_
        have := ih (i + 1) (by omega)
        rw [← fr_inc, ← e] at this
        exact this
  unfold pm_X
  (iterate 4 (first | refine pm_W.ts rfl rfl ?_ | refine pm_W.tl rfl rfl ?_))
  exact loop 6 0 (by omega)
def mt (A : Nat → List Int32) (b : Nat) (T : te_T) : Prop := ∀ e, e < 10 → (A 3).getD (b + e) 0 = nI (tP T e) ∧ (tP T e ≠ 0 → (A 4).getD (b + e) 0 = nI (tK T e) ∧ (A 5).getD (b + e) 0 = nI (tB T e).length ∧ ∀ k, k < (tB T e).length → (A 6).getD (16 * (b + e) + k) 0 = (tB T e).getD k 0)
theorem tV_lt (hV : tV T) {e : Nat} (he : e < 10) : tP T e < 2 ^ 30 := by
  by_cases c : tP T e = 0
  · rw [c]; omega
  · exact pa_ok_30 (hV.1 e he c).1
theorem ct_M_slot (hb : mr_R h o A I) (hm : mt A 0 T) (hV : tV T) (hp : p < 2 ^ 30) (k1 : ∀ e, e < 10 → tP T e = p → (∀ j, j < e → tP T j ≠ p) → Q (some (.int (nI e))) h) (k0 : (∀ e, e < 10 → tP T e ≠ p) → Q (some (.int (-1))) h) : pm_X xs 0 mM_slot [.ref o, .int (nI 0), .int (nI p)] h Q := by
  have h1 := hb.1
  have loop : ∀ (r e : Nat), e + r = 10 → (∀ j, j < e → tP T j ≠ p) → pm_W xs 0 mM_slot 2 [.ref o, .int (nI 0), .int (nI p), .int (nI e)] [] h Q := by
    intro r
    induction r with
    | zero =>
      intro e he hj
      have e10 : e = 10 := by omega
      subst e10
      (repeat (first | refine pm_W.ts rfl rfl ?_ | refine pm_W.tl rfl rfl ?_))
      refine pm_W.icmp rfl (fun c => ?_) (fun c => ?_)
      · (repeat (first | refine pm_W.ts rfl rfl ?_ | refine pm_W.tl rfl rfl ?_))
        exact pm_W.iret rfl rfl (k0 hj)
      · have c : ¬ nI 0 + nI 10 ≤ nI 10 := c
        rw [nI_add, nI_leI (by omega) (by omega)] at c
        omega
    | succ r ih =>
      intro e he hj
      (repeat (first | refine pm_W.ts rfl rfl ?_ | refine pm_W.tl rfl rfl ?_))
      refine pm_W.icmp rfl (fun c => ?_) (fun c => ?_)
      · have c : nI 0 + nI 10 ≤ nI e := c
        rw [nI_add, nI_leI (by omega) (by omega)] at c
        omega
      · have ea := (hm e (by omega)).1
        rw [Nat.zero_add] at ea
        have lt := tV_lt hV (show e < 10 by omega)
        (repeat (first | refine pm_W.ts rfl rfl ?_ | refine pm_W.tl rfl rfl ?_ | refine pm_W.get rfl rfl h1 rfl ?_))
        refine mr_ld (i := 3) hb rfl rfl rfl rfl (show e < 20 by omega) ?_
        rw [ea]
        (repeat (first | refine pm_W.ts rfl rfl ?_ | refine pm_W.tl rfl rfl ?_))
        refine pm_W.icmp rfl (fun c2 => ?_) (fun c2 => ?_)
        · have c2 : ¬ nI (tP T e) = nI p := c2
          rw [nI_eq (by omega) (by omega)] at c2
          (repeat (first | refine pm_W.ts rfl rfl ?_ | refine pm_W.tl rfl rfl ?_))
          refine pm_W.goto rfl ?_
          have := ih (e + 1) (by omega) (fun j hj' => by
            by_cases z : j = e
            · rw [z]; exact c2
            · exact hj j (by omega))
          rw [← fr_inc] at this
          exact this
        · have c2 : ¬ ¬ nI (tP T e) = nI p := c2
          rw [nI_eq (by omega) (by omega)] at c2
          (repeat (first | refine pm_W.ts rfl rfl ?_ | refine pm_W.tl rfl rfl ?_))
          exact pm_W.iret rfl rfl (k1 e (by omega) (Decidable.not_not.mp c2) hj)
  unfold pm_X
  (iterate 2 (first | refine pm_W.ts rfl rfl ?_ | refine pm_W.tl rfl rfl ?_))
  exact loop 10 0 (by omega) (fun j hj => by omega)
theorem ct_M_entries (hb : mr_R h o A I) (hm : mt A 0 T) (hV : tV T) (k : Q (some (.int (nI (tr_cnt (fun s => decide (tP T (s - 1) ≠ 0)) 10)))) h) : pm_X xs 0 mM_entries [.ref o] h Q := by
  have h1 := hb.1
  have loop : ∀ (r e : Nat), e + r = 10 → pm_W xs 0 mM_entries 4 [.ref o, .int (nI (tr_cnt (fun s => decide (tP T (s - 1) ≠ 0)) e)), .int (nI e)] [] h Q := by
    intro r
    induction r with
    | zero =>
      intro e he
      have e10 : e = 10 := by omega
      subst e10
      (repeat (first | refine pm_W.ts rfl rfl ?_ | refine pm_W.tl rfl rfl ?_))
      refine pm_W.icmp rfl (fun c => ?_) (fun c => ?_)
      · (repeat (first | refine pm_W.ts rfl rfl ?_ | refine pm_W.tl rfl rfl ?_))
        exact pm_W.iret rfl rfl k
      · have c : ¬ nI 10 ≤ nI 10 := c
        rw [nI_leI (by omega) (by omega)] at c
        omega
    | succ r ih =>
      intro e he
      (repeat (first | refine pm_W.ts rfl rfl ?_ | refine pm_W.tl rfl rfl ?_))
      refine pm_W.icmp rfl (fun c => ?_) (fun c => ?_)
      · have c : nI 10 ≤ nI e := c
        rw [nI_leI (by omega) (by omega)] at c
        omega
      · have ea := (hm e (by omega)).1
        rw [Nat.zero_add] at ea
        have lt := tV_lt hV (show e < 10 by omega)
        have nx := ih (e + 1) (by omega)
        unfold tr_cnt at nx
        rw [show e + 1 - 1 = e by omega] at nx
        (repeat (first | refine pm_W.ts rfl rfl ?_ | refine pm_W.tl rfl rfl ?_ | refine pm_W.get rfl rfl h1 rfl ?_))
        refine mr_ld (i := 3) hb rfl rfl rfl rfl (show e < 20 by omega) ?_
        rw [ea]
        refine pm_W.ifz rfl (fun c2 => ?_) (fun c2 => ?_)
        · have c2 : nI (tP T e) = nI 0 := c2
          rw [nI_eq (by omega) (by omega)] at c2
          (repeat (first | refine pm_W.ts rfl rfl ?_ | refine pm_W.tl rfl rfl ?_))
          refine pm_W.goto rfl ?_
          rw [if_neg (show ¬ (decide (tP T e ≠ 0) = true) from fun z => (of_decide_eq_true z) c2), Nat.add_zero, ← fr_inc] at nx
          exact nx
        · have c2 : ¬ nI (tP T e) = nI 0 := c2
          rw [nI_eq (by omega) (by omega)] at c2
          (repeat (first | refine pm_W.ts rfl rfl ?_ | refine pm_W.tl rfl rfl ?_))
          refine pm_W.goto rfl ?_
          (repeat (first | refine pm_W.ts rfl rfl ?_ | refine pm_W.tl rfl rfl ?_))
          refine pm_W.goto rfl ?_
          rw [if_pos (decide_eq_true c2), ← fr_inc, ← fr_inc] at nx
          exact nx
  unfold pm_X
  (iterate 4 (first | refine pm_W.ts rfl rfl ?_ | refine pm_W.tl rfl rfl ?_))
  exact loop 10 0 (by omega)
theorem ct_M_fileBytes (hb : mr_R h o A I) (hm : mt A 0 T) (hV : tV T) (k : Q (some (.int (nI (te_fb T)))) h) : pm_X xs 0 mM_fileBytes [.ref o] h Q := by
  have h1 := hb.1
  have loop : ∀ (r e : Nat), e + r = 10 → pm_W xs 0 mM_fileBytes 4 [.ref o, .int (nI (tr_sm (fun s => decide (tP T (s - 1) ≠ 0 ∧ tK T (s - 1) = 1)) (fun s => (tB T (s - 1)).length) e)), .int (nI e)] [] h Q := by
    intro r
    induction r with
    | zero =>
      intro e he
      have e10 : e = 10 := by omega
      subst e10
      (repeat (first | refine pm_W.ts rfl rfl ?_ | refine pm_W.tl rfl rfl ?_))
      refine pm_W.icmp rfl (fun c => ?_) (fun c => ?_)
      · (repeat (first | refine pm_W.ts rfl rfl ?_ | refine pm_W.tl rfl rfl ?_))
        exact pm_W.iret rfl rfl k
      · have c : ¬ nI 10 ≤ nI 10 := c
        rw [nI_leI (by omega) (by omega)] at c
        omega
    | succ r ih =>
      intro e he
      (repeat (first | refine pm_W.ts rfl rfl ?_ | refine pm_W.tl rfl rfl ?_))
      refine pm_W.icmp rfl (fun c => ?_) (fun c => ?_)
      · have c : nI 10 ≤ nI e := c
        rw [nI_leI (by omega) (by omega)] at c
        omega
      · obtain ⟨ea, eb⟩ := hm e (by omega)
        rw [Nat.zero_add] at ea eb
        have lt := tV_lt hV (show e < 10 by omega)
        have nx := ih (e + 1) (by omega)
        unfold tr_sm at nx
        rw [show e + 1 - 1 = e by omega] at nx
        (repeat (first | refine pm_W.ts rfl rfl ?_ | refine pm_W.tl rfl rfl ?_ | refine pm_W.get rfl rfl h1 rfl ?_))
        refine mr_ld (i := 3) hb rfl rfl rfl rfl (show e < 20 by omega) ?_
        rw [ea]
        refine pm_W.ifz rfl (fun c2 => ?_) (fun c2 => ?_)
        · have c2 : nI (tP T e) = nI 0 := c2
          rw [nI_eq (by omega) (by omega)] at c2
          (repeat (first | refine pm_W.ts rfl rfl ?_ | refine pm_W.tl rfl rfl ?_))
          refine pm_W.goto rfl ?_
          rw [if_neg (fun z => (of_decide_eq_true z).1 c2), Nat.add_zero, ← fr_inc] at nx
          exact nx
        · have c2 : ¬ nI (tP T e) = nI 0 := c2
          rw [nI_eq (by omega) (by omega)] at c2
          obtain ⟨ek, el, -⟩ := eb c2
          have kk := (hV.1 e (by omega) c2).2.1
          (repeat (first | refine pm_W.ts rfl rfl ?_ | refine pm_W.tl rfl rfl ?_ | refine pm_W.get rfl rfl h1 rfl ?_))
          refine mr_ld (i := 4) hb rfl rfl rfl rfl (show e < 20 by omega) ?_
          rw [ek]
          (repeat (first | refine pm_W.ts rfl rfl ?_ | refine pm_W.tl rfl rfl ?_))
          refine pm_W.icmp rfl (fun c3 => ?_) (fun c3 => ?_)
          · have c3 : ¬ nI (tK T e) = nI 1 := c3
            rw [nI_eq (by omega) (by omega)] at c3
            (repeat (first | refine pm_W.ts rfl rfl ?_ | refine pm_W.tl rfl rfl ?_))
            refine pm_W.goto rfl ?_
            rw [if_neg (fun z => c3 (of_decide_eq_true z).2), Nat.add_zero, ← fr_inc] at nx
            exact nx
          · have c3 : ¬ ¬ nI (tK T e) = nI 1 := c3
            rw [nI_eq (by omega) (by omega)] at c3
            (repeat (first | refine pm_W.ts rfl rfl ?_ | refine pm_W.tl rfl rfl ?_ | refine pm_W.get rfl rfl h1 rfl ?_))
            refine mr_ld (i := 5) hb rfl rfl rfl rfl (show e < 20 by omega) ?_
            rw [el]
            (repeat (first | refine pm_W.ts rfl rfl ?_ | refine pm_W.tl rfl rfl ?_))
            refine pm_W.goto rfl ?_
            (repeat (first | refine pm_W.ts rfl rfl ?_ | refine pm_W.tl rfl rfl ?_))
            refine pm_W.goto rfl ?_
            rw [if_pos (decide_eq_true ⟨c2, Decidable.not_not.mp c3⟩), ← nI_add, ← fr_inc] at nx
            exact nx
  unfold pm_X
  (iterate 4 (first | refine pm_W.ts rfl rfl ?_ | refine pm_W.tl rfl rfl ?_))
  exact loop 10 0 (by omega)
theorem ct_M_file (hb : mr_R h o A I) (hm : mt A 0 T) (hV : tV T) (hp : p < 2 ^ 32) (k1 : ∀ e, fl_ok T p e → Q (some (.int (nI e))) h) (k0 : (∀ e, ¬ fl_ok T p e) → Q (some (.int (-1))) h) : pm_X xs 2 mM_file [.ref o, .int (nI p)] h Q := by
  have h1 := hb.1
  have no : ∀ v, (∀ e, ¬ fl_ok T p e) → pm_W xs 2 mM_file 40 [.ref o, .int (nI p), v] [] h Q := by
    intro v c
    (repeat (first | refine pm_W.ts rfl rfl ?_ | refine pm_W.tl rfl rfl ?_))
    exact pm_W.iret rfl rfl (k0 c)
  have no1 : ∀ v, (∀ e, ¬ fl_ok T p e) → pm_W xs 2 mM_file 21 [.ref o, .int (nI p), v] [.int (-1)] h Q := by
    intro v c
    (repeat (first | refine pm_W.ts rfl rfl ?_ | refine pm_W.tl rfl rfl ?_))
    refine pm_W.ifz rfl (fun _ => no _ c) (fun z => absurd (show (-1 : Int32) < 0 by decide) z)
  have no2 : ∀ v, (∀ e, ¬ fl_ok T p e) → pm_W xs 2 mM_file 20 [.ref o, .int (nI p), v] [] h Q := by
    intro v c
    (iterate 1 (first | refine pm_W.ts rfl rfl ?_ | refine pm_W.tl rfl rfl ?_))
    exact no1 v c
  unfold pm_X
  (repeat (first | refine pm_W.ts rfl rfl ?_ | refine pm_W.tl rfl rfl ?_))
  refine pm_W.callS (d' := 1) rfl rfl rfl rfl (fr_ble rfl) (fr_ble rfl) (ct_M_isPath hp ?_)
  refine pm_W.ifz rfl (fun c => no2 _ (fun e z => by have z1 := z.1; rw [fr_b0 c] at z1; cases z1)) (fun c => ?_)
  have hpo := fr_b1 c
  have hp30 := pa_ok_30 hpo
  (repeat (first | refine pm_W.ts rfl rfl ?_ | refine pm_W.tl rfl rfl ?_))
  refine pm_W.ifz rfl (fun c2 => no2 _ (fun e z => ?_)) (fun c2 => ?_)
  · have c2 : nI p = nI 0 := c2
    rw [nI_eq (by omega) (by omega)] at c2
    exact z.2.1 c2
  · have c2 : ¬ nI p = nI 0 := c2
    rw [nI_eq (by omega) (by omega)] at c2
    (repeat (first | refine pm_W.ts rfl rfl ?_ | refine pm_W.tl rfl rfl ?_))
    refine pm_W.callV (d' := 0) (as := [.int (nI 0), .int (nI p)]) rfl rfl rfl rfl (fr_ble rfl) h1 (fr_ble rfl) (ct_M_slot hb hm hV hp30 (fun e he ep hj => ?_) (fun hno => ?_))
    · refine pm_W.goto rfl ?_
      (repeat (first | refine pm_W.ts rfl rfl ?_ | refine pm_W.tl rfl rfl ?_))
      refine pm_W.ifz rfl (fun z => absurd z (nI_pos (by omega))) (fun _ => ?_)
      obtain ⟨ek, el, -⟩ := (hm e he).2 (by rw [ep]; exact c2)
      rw [Nat.zero_add] at ek el
      have kk := (hV.1 e he (by rw [ep]; exact c2)).2.1
      (repeat (first | refine pm_W.ts rfl rfl ?_ | refine pm_W.tl rfl rfl ?_ | refine pm_W.get rfl rfl h1 rfl ?_))
      refine mr_ld (i := 4) hb rfl rfl rfl rfl (show e < 20 by omega) ?_
      rw [ek]
      (repeat (first | refine pm_W.ts rfl rfl ?_ | refine pm_W.tl rfl rfl ?_))
      refine pm_W.icmp rfl (fun c3 => no _ (fun e' z => ?_)) (fun c3 => ?_)
      · have c3 : ¬ nI (tK T e) = nI 1 := c3
        rw [nI_eq (by omega) (by omega)] at c3
        obtain ⟨z1, z2, z3, z4, z5⟩ := z
        have : e = e' := hV.2.1 e e' he z3 (by rw [ep]; exact c2) (by rw [ep, z4])
        rw [this] at c3
        exact c3 z5
      · have c3 : ¬ ¬ nI (tK T e) = nI 1 := c3
        rw [nI_eq (by omega) (by omega)] at c3
        (repeat (first | refine pm_W.ts rfl rfl ?_ | refine pm_W.tl rfl rfl ?_))
        refine pm_W.goto rfl ?_
        exact pm_W.iret rfl rfl (k1 e ⟨hpo, c2, he, ep, Decidable.not_not.mp c3⟩)
    · refine pm_W.goto rfl ?_
      exact no1 _ (fun e z => hno e z.2.2.1 z.2.2.2.1)
end MPATH
