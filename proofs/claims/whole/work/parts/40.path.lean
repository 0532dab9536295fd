theorem fr_u (n : Nat) : (nI n).toUInt32 = UInt32.ofNat n := rfl
theorem fr_toI (y : UInt32) : y.toInt32 = nI y.toNat := by
  show (⟨y⟩ : Int32) = ⟨UInt32.ofNat y.toNat⟩
  rw [UInt32.ofNat_toNat]
theorem fr_any (x : Int32) : ∃ p : Nat, p < 2 ^ 32 ∧ x = nI p := ⟨x.toUInt32.toNat, x.toUInt32.toNat_lt, by
  rw [← fr_toI]
  rfl⟩
theorem fr_ushr {p j : Nat} (hp : p < 2 ^ 32) (hj : j < 32) : pm_ushr (nI p) (nI j) = nI (p / 2 ^ j) := by
  unfold pm_ushr
  rw [fr_toI]
  congr 1
  rw [fr_u, fr_u, UInt32.toNat_shiftRight, UInt32.toNat_and]
  have h1 : (UInt32.ofNat p).toNat = p := by rw [UInt32.toNat_ofNat']; omega
  have h2 : (UInt32.ofNat j).toNat = j := by rw [UInt32.toNat_ofNat']; omega
  have h3 : (Int32.toUInt32 31).toNat = 2 ^ 5 - 1 := rfl
  rw [h1, h2, h3, Nat.and_two_pow_sub_one_eq_mod, Nat.shiftRight_eq_div_pow]
  congr 2
  omega
theorem fr_and (a b : Nat) : nI a &&& nI b = nI (a &&& b) := by
  apply Int32.toBitVec_inj.mp
  show BitVec.ofNat 32 a &&& BitVec.ofNat 32 b = BitVec.ofNat 32 (a &&& b)
  apply BitVec.eq_of_toNat_eq
  simp only [BitVec.toNat_and, BitVec.toNat_ofNat, Nat.and_mod_two_pow]
theorem fr_mask {a : Nat} (j : Nat) : nI a &&& nI (2 ^ j - 1) = nI (a % 2 ^ j) := by
  rw [fr_and, Nat.and_two_pow_sub_one_eq_mod]
theorem fr_mul (a b : Nat) : nI a * nI b = nI (a * b) := (Int32.ofNat_mul a b).symm
theorem fr_ofNat_mod (n : Nat) : nI (n % 2 ^ 32) = nI n := by
  apply Int32.toBitVec_inj.mp
  show BitVec.ofNat 32 (n % 2 ^ 32) = BitVec.ofNat 32 n
  apply BitVec.eq_of_toNat_eq
  simp only [BitVec.toNat_ofNat, Nat.mod_mod]
theorem fr_shl {a j : Nat} (hj : j < 32) : nI a <<< (nI j &&& 31) = nI (a * 2 ^ j) := by
  have e : nI j &&& 31 = nI j := by
    have := fr_mask (a := j) 5
    rw [show j % 2 ^ 5 = j by omega] at this
    exact this
  rw [e]
  apply Int32.toBitVec_inj.mp
  rw [Int32.toBitVec_shiftLeft]
  show BitVec.ofNat 32 a <<< ((BitVec.ofNat 32 j).smod 32) = BitVec.ofNat 32 (a * 2 ^ j)
  have h2 : (BitVec.ofNat 32 j).smod 32 = BitVec.ofNat 32 j := by
    match j, hj with
    | 0, _ => rfl
    | 1, _ => rfl
    | 2, _ => rfl
    | 3, _ => rfl
    | 4, _ => rfl
    | 5, _ => rfl
    | 6, _ => rfl
    | 7, _ => rfl
    | 8, _ => rfl
    | 9, _ => rfl
    | 10, _ => rfl
    | 11, _ => rfl
    | 12, _ => rfl
    | 13, _ => rfl
    | 14, _ => rfl
    | 15, _ => rfl
    | 16, _ => rfl
    | 17, _ => rfl
    | 18, _ => rfl
    | 19, _ => rfl
    | 20, _ => rfl
    | 21, _ => rfl
    | 22, _ => rfl
    | 23, _ => rfl
    | 24, _ => rfl
    | 25, _ => rfl
    | 26, _ => rfl
    | 27, _ => rfl
    | 28, _ => rfl
    | 29, _ => rfl
    | 30, _ => rfl
    | 31, _ => rfl
    | n + 32, h => omega
  rw [h2]
  apply BitVec.eq_of_toNat_eq
  rw [BitVec.shiftLeft_eq', BitVec.toNat_shiftLeft, BitVec.toNat_ofNat, BitVec.toNat_ofNat, BitVec.toNat_ofNat, Nat.mod_eq_of_lt (show j < 2 ^ 32 by omega), Nat.shiftLeft_eq]
  rw [Nat.mod_mul_mod]
def pa_n (p i : Nat) : Nat := p / 2 ^ (5 * i) % 32
def pa_dr (p : Nat) : Nat → Nat → Nat
  | 0, d => d
  | r + 1, d => if pa_n p d = 0 then d else pa_dr p r (d + 1)
def pa_d (p : Nat) : Nat := pa_dr p 6 0
theorem pa_dr_spec {p : Nat} : ∀ (r d : Nat), d + r = 6 → (∀ i, i < d → pa_n p i ≠ 0) → d ≤ pa_dr p r d ∧ pa_dr p r d ≤ 6 ∧ (∀ i, i < pa_dr p r d → pa_n p i ≠ 0) ∧ (pa_dr p r d = 6 ∨ pa_n p (pa_dr p r d) = 0) := by
  intro r
  induction r with
  | zero => intro d hd hi; exact ⟨Nat.le_refl _, by show d ≤ 6; omega, hi, Or.inl (by show d = 6; omega)⟩
  | succ r ih =>
    intro d hd hi
    unfold pa_dr
    by_cases h : pa_n p d = 0
    · rw [if_pos h]
      exact ⟨Nat.le_refl _, by omega, hi, Or.inr h⟩
    · rw [if_neg h]
      obtain ⟨h1, h2, h3, h4⟩ := ih (d + 1) (by omega) (fun i hj => by
        by_cases e : i = d
        · rw [e]; exact h
        · exact hi i (by omega))
      exact ⟨by omega, h2, h3, h4⟩
theorem pa_d_spec (p : Nat) : pa_d p ≤ 6 ∧ (∀ i, i < pa_d p → pa_n p i ≠ 0) ∧ (pa_d p = 6 ∨ pa_n p (pa_d p) = 0) := (pa_dr_spec 6 0 (by omega) (fun i hi => by omega)).2
def pa_ok (p : Nat) : Bool := decide (p / 2 ^ (5 * pa_d p) = 0)
def pa_last (p : Nat) : Nat := pa_n p (pa_d p - 1)
def pa_up (p : Nat) : Nat := p % 2 ^ (5 * (pa_d p - 1))
section PATHS
variable {xs : List Int32} {h : pm_H} {Q : Option Value → pm_H → Prop} {p : Nat}
theorem ct_T_nameIn {i : Nat} (hp : p < 2 ^ 32) (hi : i ≤ 6) (k : Q (some (.int (nI (pa_n p i)))) h) : pm_X xs 0 mT_nameIn [.int (nI p), .int (nI i)] h Q := by
  unfold pm_X
  (repeat (first | refine pm_W.ts rfl rfl ?_ | refine pm_W.tl rfl rfl ?_))
  have e : pm_ushr (nI p) (Int32.ofInt 5 * nI i) &&& (Int8.ofInt 31).toInt32 = nI (pa_n p i) := by
    show pm_ushr (nI p) (nI 5 * nI i) &&& nI (2 ^ 5 - 1) = _
    rw [fr_mul, fr_ushr hp (by omega), fr_mask]
    rfl
  refine pm_W.iret rfl rfl ?_
  rw [e]
  exact k
theorem ct_T_namesIn (hp : p < 2 ^ 32) (k : Q (some (.int (nI (pa_d p)))) h) : pm_X xs 1 mT_namesIn [.int (nI p)] h Q := by
  have loop : ∀ (r d : Nat), d + r = 6 → pa_dr p r d = pa_d p → pm_W xs 1 mT_namesIn 2 [.int (nI p), .int (nI d)] [] h Q := by
    intro r
    induction r with
    | zero =>
      intro d hd he
      (repeat (first | refine pm_W.ts rfl rfl ?_ | refine pm_W.tl rfl rfl ?_))
      refine pm_W.icmp rfl (fun c => ?_) (fun c => ?_)
      · (repeat (first | refine pm_W.ts rfl rfl ?_ | refine pm_W.tl rfl rfl ?_))
        refine pm_W.iret rfl rfl ?_
        rw [show d = pa_d p from he]
        exact k
      · have c : ¬ nI 6 ≤ nI d := c
        rw [nI_leI (by omega) (by omega)] at c
        omega
    | succ r ih =>
      intro d hd he
      (repeat (first | refine pm_W.ts rfl rfl ?_ | refine pm_W.tl rfl rfl ?_))
      refine pm_W.icmp rfl (fun c => ?_) (fun c => ?_)
      · have c : nI 6 ≤ nI d := c
        rw [nI_leI (by omega) (by omega)] at c
        omega
      · (repeat (first | refine pm_W.ts rfl rfl ?_ | refine pm_W.tl rfl rfl ?_))
        refine pm_W.callS rfl rfl rfl rfl (fr_ble rfl) (fr_ble rfl) (ct_T_nameIn hp (by omega) ?_)
        have hlt : pa_n p d < 2 ^ 31 := by unfold pa_n; omega
        refine pm_W.ifz rfl (fun c2 => ?_) (fun c2 => ?_)
        · have c2 : nI (pa_n p d) = nI 0 := c2
          rw [nI_eq hlt (by omega)] at c2
          (repeat (first | refine pm_W.ts rfl rfl ?_ | refine pm_W.tl rfl rfl ?_))
          refine pm_W.iret rfl rfl ?_
          unfold pa_dr at he
          rw [if_pos c2] at he
          rw [he]
          exact k
        · have c2 : ¬ nI (pa_n p d) = nI 0 := c2
          rw [nI_eq hlt (by omega)] at c2
          (repeat (first | refine pm_W.ts rfl rfl ?_ | refine pm_W.tl rfl rfl ?_))
          refine pm_W.goto rfl ?_
          unfold pa_dr at he
          rw [if_neg c2] at he
          have := ih (d + 1) (by omega) he
          rw [← fr_inc] at this
          exact this
  unfold pm_X
  (iterate 2 (first | refine pm_W.ts rfl rfl ?_ | refine pm_W.tl rfl rfl ?_))
  exact loop 6 0 (by omega) rfl
theorem ct_T_isPath (hp : p < 2 ^ 32) (k : Q (some (.int (fr_b (pa_ok p)))) h) : pm_X xs 2 mT_isPath [.int (nI p)] h Q := by
  have hd := (pa_d_spec p).1
  unfold pm_X
  (repeat (first | refine pm_W.ts rfl rfl ?_ | refine pm_W.tl rfl rfl ?_))
  refine pm_W.callS rfl rfl rfl rfl (fr_ble rfl) (fr_ble rfl) (ct_T_namesIn hp ?_)
  (repeat (first | refine pm_W.ts rfl rfl ?_ | refine pm_W.tl rfl rfl ?_))
  have e : pm_ushr (nI p) (Int32.ofInt 5 * nI (pa_d p)) = nI (p / 2 ^ (5 * pa_d p)) := by
    show pm_ushr (nI p) (nI 5 * nI (pa_d p)) = _
    rw [fr_mul, fr_ushr hp (by omega)]
  rw [e]
  have hz : nI (p / 2 ^ (5 * pa_d p)) = 0 ↔ p / 2 ^ (5 * pa_d p) = 0 := by
    have hlt : p / 2 ^ (5 * pa_d p) < 2 ^ 32 := Nat.lt_of_le_of_lt (Nat.div_le_self _ _) hp
    constructor
    · intro z
      have z2 := congrArg (fun x : Int32 => x.toUInt32.toNat) z
      have z3 : (nI (p / 2 ^ (5 * pa_d p))).toUInt32.toNat = p / 2 ^ (5 * pa_d p) := by
        rw [fr_u, UInt32.toNat_ofNat']
        exact Nat.mod_eq_of_lt hlt
      rw [← z3]
      exact z2
    · intro z
      rw [z]
      rfl
  refine pm_W.ifz rfl (fun c => ?_) (fun c => ?_)
  · have c : ¬ nI (p / 2 ^ (5 * pa_d p)) = 0 := c
    (repeat (first | refine pm_W.ts rfl rfl ?_ | refine pm_W.tl rfl rfl ?_))
    refine pm_W.iret rfl rfl ?_
    rw [fr_bf (show pa_ok p = false from decide_eq_false (fun z => c (hz.mpr z)))] at k
    exact k
  · have c : ¬ ¬ nI (p / 2 ^ (5 * pa_d p)) = 0 := c
    (repeat (first | refine pm_W.ts rfl rfl ?_ | refine pm_W.tl rfl rfl ?_))
    refine pm_W.goto rfl ?_
    refine pm_W.iret rfl rfl ?_
    rw [fr_bt (show pa_ok p = true from decide_eq_true (hz.mp (Classical.not_not.mp c)))] at k
    exact k
theorem fr_max0 {d : Nat} (hd : d < 2 ^ 30) : (if Int32.ofInt 0 < nI d - Int32.ofInt 1 then nI d - Int32.ofInt 1 else Int32.ofInt 0) = nI (d - 1) := by
  cases d with
  | zero => decide
  | succ d =>
    have e : nI (d + 1) - Int32.ofInt 1 = nI d := nI_pred d
    rw [e]
    show (if nI 0 < nI d then nI d else nI 0) = nI d
    by_cases h : 0 < d
    · rw [if_pos (nI_lt h (by omega))]
    · rw [show d = 0 by omega]
      rfl
theorem ct_T_lastNameOf (hp : p < 2 ^ 32) (k : Q (some (.int (nI (pa_last p)))) h) : pm_X xs 2 mT_lastNameOf [.int (nI p)] h Q := by
  have hd := (pa_d_spec p).1
  unfold pm_X
  (repeat (first | refine pm_W.ts rfl rfl ?_ | refine pm_W.tl rfl rfl ?_))
  refine pm_W.callS rfl rfl rfl rfl (fr_ble rfl) (fr_ble rfl) (ct_T_namesIn hp ?_)
  (repeat (first | refine pm_W.ts rfl rfl ?_ | refine pm_W.tl rfl rfl ?_))
  refine pm_W.max rfl rfl rfl rfl ?_
  rw [fr_max0 (by omega)]
  refine pm_W.callS (d' := 0) rfl rfl rfl rfl (fr_ble rfl) (fr_ble rfl) (ct_T_nameIn hp (by omega) ?_)
  exact pm_W.iret rfl rfl k
theorem ct_T_pathOfParent (hp : p < 2 ^ 32) (k : Q (some (.int (nI (pa_up p)))) h) : pm_X xs 2 mT_pathOfParent [.int (nI p)] h Q := by
  have hd := (pa_d_spec p).1
  unfold pm_X
  (repeat (first | refine pm_W.ts rfl rfl ?_ | refine pm_W.tl rfl rfl ?_))
  refine pm_W.callS rfl rfl rfl rfl (fr_ble rfl) (fr_ble rfl) (ct_T_namesIn hp ?_)
  (repeat (first | refine pm_W.ts rfl rfl ?_ | refine pm_W.tl rfl rfl ?_))
  refine pm_W.max rfl rfl rfl rfl ?_
  rw [fr_max0 (by omega)]
  (repeat (first | refine pm_W.ts rfl rfl ?_ | refine pm_W.tl rfl rfl ?_))
  refine pm_W.iret rfl rfl ?_
  have e : nI p &&& (Int32.ofInt 1 <<< (Int32.ofInt 5 * nI (pa_d p - 1) &&& 31) - Int32.ofInt 1) = nI (pa_up p) := by
    show nI p &&& (nI 1 <<< (nI 5 * nI (pa_d p - 1) &&& 31) - nI 1) = _
    rw [fr_mul, fr_shl (by omega), fr_sub (j := 1) (Nat.one_le_iff_ne_zero.mpr (by rw [Nat.one_mul]; exact Nat.ne_of_gt (Nat.two_pow_pos _))), Nat.one_mul, fr_mask]
    rfl
  rw [e]
  exact k
end PATHS
