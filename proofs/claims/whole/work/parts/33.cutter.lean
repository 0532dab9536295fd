def cz_T (x : Int32) : Int32 := (x + 1) * (-1640531535)
def cz_L (y k : Int32) : Int32 := (y <<< (k &&& 31)) ||| pm_ushr y (32 - k)
def cz_M (a b c d : Int32) : Int32 := pm_ushr (cz_L (cz_T a) 3 ^^^ cz_L (cz_T b) 2 ^^^ cz_L (cz_T c) 1 ^^^ cz_T d) 1
abbrev cz_N : Type := Nat × Nat × Nat
def cz_ok (z : cz_N) : Prop := 8 ≤ z.1 ∧ z.1 ≤ z.2.1 ∧ z.2.1 ≤ z.2.2 ∧ z.2.2 ≤ 32
def cz_rem (x y : Int32) : Int32 := x - x / y * y
def cz_end (z : cz_N) (bs : List Int32) (s e : Nat) : Bool := decide (e = bs.length ∨ e - s = z.2.2 ∨ (z.1 ≤ e - s ∧ cz_rem (cz_M (bs.getD (e - 4) 0) (bs.getD (e - 3) 0) (bs.getD (e - 2) 0) (bs.getD (e - 1) 0)) (nI z.2.1) = nI z.2.1 - 1))
def cz_cut (z : cz_N) (bs : List Int32) : Nat → List (Nat × Int32) × Nat
  | 0 => ([], 0)
  | e + 1 => if cz_end z bs (cz_cut z bs e).2 (e + 1) = true then ((cz_cut z bs e).1 ++ [(e + 1, bt_id bs (nI (cz_cut z bs e).2) (e + 1 - (cz_cut z bs e).2))], e + 1) else cz_cut z bs e
def cz_R (h : pm_H) (a : Nat) (z : cz_N) : Prop := h.1[a]? = some (.inr (.inr (kC, [.int (nI z.1), .int (nI z.2.1), .int (nI z.2.2)])))
theorem cz_cut_inv {z : cz_N} {bs : List Int32} (hz : cz_ok z) : ∀ e, e ≤ bs.length → (cz_cut z bs e).2 ≤ e ∧ (e < bs.length → 8 * (cz_cut z bs e).1.length ≤ (cz_cut z bs e).2) ∧ 8 * (cz_cut z bs e).1.length ≤ e + 7 := by
  intro e
  induction e with
  | zero => intro _; exact ⟨Nat.le_refl _, fun _ => Nat.le_refl _, by show 8 * 0 ≤ _; omega⟩
  | succ e ih =>
    intro he
    obtain ⟨i1, i2, i3⟩ := ih (by omega)
    have i2 := i2 (by omega)
    unfold cz_cut
    split
    · rename_i hc
      have hc := of_decide_eq_true hc
      refine ⟨Nat.le_refl _, fun hlt => ?_, ?_⟩
      · rw [List.length_append, List.length_singleton]
        show 8 * (_ + 1) ≤ e + 1
        obtain ⟨z1, z2, z3, z4⟩ := hz
        rcases hc with hc | hc | hc
        · omega
        · omega
        · omega
      · rw [List.length_append, List.length_singleton]
        omega
    · exact ⟨by omega, fun _ => i2, by omega⟩
section CUTTER
variable {xs : List Int32} {h : pm_H} {a : Nat} {z : cz_N} {bs : List Int32} {Q : Option Value → pm_H → Prop}
theorem ct_C_spread {x : Int32} (k : Q (some (.int (cz_T x))) h) : pm_X xs 0 mC_spread [.int x] h Q := by
  unfold pm_X
  (repeat (first | refine pm_W.ts rfl rfl ?_ | refine pm_W.tl rfl rfl ?_))
  refine pm_W.ldc rfl rfl ?_
  (repeat (first | refine pm_W.ts rfl rfl ?_ | refine pm_W.tl rfl rfl ?_))
  exact pm_W.iret rfl rfl k
theorem ct_C_turnLeft {y w : Int32} (k : Q (some (.int (cz_L y w))) h) : pm_X xs 0 mC_turnLeft [.int y, .int w] h Q := by
  unfold pm_X
  (repeat (first | refine pm_W.ts rfl rfl ?_ | refine pm_W.tl rfl rfl ?_))
  exact pm_W.iret rfl rfl k
theorem bt_at_D {j : Nat} (hj : j < 2 ^ 31) (hl : bs.length ≤ 1000) : bt_at bs (nI j) = bs.getD j 0 := by
  by_cases h1 : j < bs.length
  · exact bt_at_nat h1 hl
  · rw [bt_at_not (decide_eq_false (fun z => h1 ((nI_ltI hj (by omega)).mp z.2))), List.getD_eq_getElem?_getD, List.getElem?_eq_none (by omega)]
    rfl
theorem fr_sub {i j : Nat} (h : j ≤ i) : nI i - nI j = nI (i - j) := by
  have e : nI i = nI (i - j) + nI j := by rw [nI_add]; congr 1; omega
  rw [e, Int32.add_sub_cancel]
theorem ct_C_markBefore {o ro e : Nat} (ho : bt_R h o ro bs) (he : 4 ≤ e) (he2 : e < 1000) (k : Q (some (.int (cz_M (bs.getD (e - 4) 0) (bs.getD (e - 3) 0) (bs.getD (e - 2) 0) (bs.getD (e - 1) 0)))) h) : pm_X xs 2 mC_markBefore [.ref o, .int (nI e)] h Q := by
  obtain ⟨ys, o1, o2, o3, o4, o5, o6⟩ := id ho
  have e1 : nI e - Int32.ofInt 4 = nI (e - 4) := fr_sub he
  have e2 : nI e - Int32.ofInt 3 = nI (e - 3) := fr_sub (j := 3) (by omega)
  have e3 : nI e - Int32.ofInt 2 = nI (e - 2) := fr_sub (j := 2) (by omega)
  have e4 : nI e - Int32.ofInt 1 = nI (e - 1) := fr_sub (j := 1) (by omega)
  unfold pm_X
  (repeat (first | refine pm_W.ts rfl rfl ?_ | refine pm_W.tl rfl rfl ?_))
  rw [e1]
  refine pm_W.callV rfl rfl rfl rfl (fr_ble rfl) o1 (fr_ble rfl) (ct_B_at ho ?_)
  rw [bt_at_D (by omega) (by omega)]
  refine pm_W.callS (d' := 0) rfl rfl rfl rfl (fr_ble rfl) (fr_ble rfl) (ct_C_spread ?_)
  (repeat (first | refine pm_W.ts rfl rfl ?_ | refine pm_W.tl rfl rfl ?_))
  rw [e2]
  refine pm_W.callV rfl rfl rfl rfl (fr_ble rfl) o1 (fr_ble rfl) (ct_B_at ho ?_)
  rw [bt_at_D (by omega) (by omega)]
  refine pm_W.callS (d' := 0) rfl rfl rfl rfl (fr_ble rfl) (fr_ble rfl) (ct_C_spread ?_)
  (repeat (first | refine pm_W.ts rfl rfl ?_ | refine pm_W.tl rfl rfl ?_))
  rw [e3]
  refine pm_W.callV rfl rfl rfl rfl (fr_ble rfl) o1 (fr_ble rfl) (ct_B_at ho ?_)
  rw [bt_at_D (by omega) (by omega)]
  refine pm_W.callS (d' := 0) rfl rfl rfl rfl (fr_ble rfl) (fr_ble rfl) (ct_C_spread ?_)
  (repeat (first | refine pm_W.ts rfl rfl ?_ | refine pm_W.tl rfl rfl ?_))
  rw [e4]
  refine pm_W.callV rfl rfl rfl rfl (fr_ble rfl) o1 (fr_ble rfl) (ct_B_at ho ?_)
  rw [bt_at_D (by omega) (by omega)]
  refine pm_W.callS (d' := 0) rfl rfl rfl rfl (fr_ble rfl) (fr_ble rfl) (ct_C_spread ?_)
  (repeat (first | refine pm_W.ts rfl rfl ?_ | refine pm_W.tl rfl rfl ?_))
  refine pm_W.callS (d' := 0) rfl rfl rfl rfl (fr_ble rfl) (fr_ble rfl) (ct_C_turnLeft ?_)
  (repeat (first | refine pm_W.ts rfl rfl ?_ | refine pm_W.tl rfl rfl ?_))
  refine pm_W.callS (d' := 0) rfl rfl rfl rfl (fr_ble rfl) (fr_ble rfl) (ct_C_turnLeft ?_)
  (repeat (first | refine pm_W.ts rfl rfl ?_ | refine pm_W.tl rfl rfl ?_))
  refine pm_W.callS (d' := 0) rfl rfl rfl rfl (fr_ble rfl) (fr_ble rfl) (ct_C_turnLeft ?_)
  (repeat (first | refine pm_W.ts rfl rfl ?_ | refine pm_W.tl rfl rfl ?_))
  exact pm_W.iret rfl rfl k
theorem ct_C_isEnd {o ro s e : Nat} (hc : cz_R h a z) (hz : cz_ok z) (ho : bt_R h o ro bs) (hs : s < e) (he : e ≤ bs.length) (k : Q (some (.int (fr_b (cz_end z bs s e)))) h) : pm_X xs 3 mC_isEnd [.ref a, .ref o, .int (nI s), .int (nI e)] h Q := by
  obtain ⟨ys, o1, o2, o3, o4, o5, o6⟩ := id ho
  obtain ⟨z1, z2, z3, z4⟩ := hz
  have hc : h.1[a]? = some (.inr (.inr (kC, [.int (nI z.1), .int (nI z.2.1), .int (nI z.2.2)]))) := hc
  have e1 : nI e - nI s = nI (e - s) := fr_sub (by omega)
  unfold pm_X
  (repeat (first | refine pm_W.ts rfl rfl ?_ | refine pm_W.tl rfl rfl ?_))
  rw [e1]
  refine pm_W.callV (d' := 0) rfl rfl rfl rfl (fr_ble rfl) o1 (fr_ble rfl) (ct_B_count ho ?_)
  refine pm_W.icmp rfl (fun c1 => ?_) (fun c1 => ?_)
  · have c1 : nI e = nI bs.length := c1
    rw [nI_eq (by omega) (by omega)] at c1
    (repeat (first | refine pm_W.ts rfl rfl ?_ | refine pm_W.tl rfl rfl ?_))
    rw [fr_bt (show cz_end z bs s e = true from decide_eq_true (Or.inl c1))] at k
    exact pm_W.iret rfl rfl k
  · have c1 : ¬ nI e = nI bs.length := c1
    rw [nI_eq (by omega) (by omega)] at c1
    (repeat (first | refine pm_W.ts rfl rfl ?_ | refine pm_W.tl rfl rfl ?_ | refine pm_W.get rfl rfl hc rfl ?_))
    refine pm_W.icmp rfl (fun c2 => ?_) (fun c2 => ?_)
    · have c2 : ¬ nI (e - s) = nI z.2.2 := c2
      rw [nI_eq (by omega) (by omega)] at c2
      (repeat (first | refine pm_W.ts rfl rfl ?_ | refine pm_W.tl rfl rfl ?_ | refine pm_W.get rfl rfl hc rfl ?_))
      refine pm_W.icmp rfl (fun c3 => ?_) (fun c3 => ?_)
      · have c3 : nI (e - s) < nI z.1 := c3
        rw [nI_ltI (by omega) (by omega)] at c3
        (repeat (first | refine pm_W.ts rfl rfl ?_ | refine pm_W.tl rfl rfl ?_))
        rw [fr_bf (show cz_end z bs s e = false from decide_eq_false (by rintro (q | q | q) <;> omega))] at k
        exact pm_W.iret rfl rfl k
      · have c3 : ¬ nI (e - s) < nI z.1 := c3
        rw [nI_ltI (by omega) (by omega)] at c3
        (repeat (first | refine pm_W.ts rfl rfl ?_ | refine pm_W.tl rfl rfl ?_))
        refine pm_W.callS rfl rfl rfl rfl (fr_ble rfl) (fr_ble rfl) (ct_C_markBefore ho (by omega) (by omega) ?_)
        (repeat (first | refine pm_W.ts rfl rfl ?_ | refine pm_W.tl rfl rfl ?_ | refine pm_W.get rfl rfl hc rfl ?_))
        refine pm_W.irem rfl (nI_ne0 (by omega) (by omega)) ?_
        (repeat (first | refine pm_W.ts rfl rfl ?_ | refine pm_W.tl rfl rfl ?_ | refine pm_W.get rfl rfl hc rfl ?_))
        refine pm_W.icmp rfl (fun c4 => ?_) (fun c4 => ?_)
        · (repeat (first | refine pm_W.ts rfl rfl ?_ | refine pm_W.tl rfl rfl ?_))
          rw [fr_bf (show cz_end z bs s e = false from decide_eq_false (by
            rintro (q | q | q)
            · exact c1 q
            · exact c2 q
            · exact c4 q.2))] at k
          exact pm_W.iret rfl rfl k
        · (repeat (first | refine pm_W.ts rfl rfl ?_ | refine pm_W.tl rfl rfl ?_))
          refine pm_W.goto rfl ?_
          rw [fr_bt (show cz_end z bs s e = true from decide_eq_true (Or.inr (Or.inr ⟨by omega, Classical.not_not.mp c4⟩)))] at k
          exact pm_W.iret rfl rfl k
    · have c2 : ¬ ¬ nI (e - s) = nI z.2.2 := c2
      have c2 := Classical.not_not.mp c2
      rw [nI_eq (by omega) (by omega)] at c2
      (repeat (first | refine pm_W.ts rfl rfl ?_ | refine pm_W.tl rfl rfl ?_))
      rw [fr_bt (show cz_end z bs s e = true from decide_eq_true (Or.inr (Or.inl c2)))] at k
      exact pm_W.iret rfl rfl k
theorem ct_C_cut {o ro q : Nat} {ps : List (Nat × Int32)} (hc : cz_R h a z) (hz : cz_ok z) (ho : bt_R h o ro bs) (hl : bs.length ≤ 117) (hq : pl_R h q ps) (d1 : o + 2 ≤ q ∨ q + 3 ≤ o) (d2 : a < q ∨ q + 3 ≤ a)
    (k : ∀ h' : pm_H, pl_R h' q (cz_cut z bs bs.length).1 → fr_ag q (q + 3) h h' → Q none h') : pm_X xs 4 mC_cut [.ref a, .ref o, .ref q] h Q := by
  obtain ⟨ys, o1, o2, o3, o4, o5, o6⟩ := id ho
  have loop : ∀ (r e : Nat) (h1 : pm_H), e + r = bs.length → pl_R h1 q (cz_cut z bs e).1 → fr_ag q (q + 3) h h1 → pm_W xs 4 mC_cut 9 [.ref a, .ref o, .ref q, .int (nI (cz_cut z bs e).2), .int (nI (e + 1))] [] h1 Q := by
    intro r
    induction r with
    | zero =>
      intro e h1 he hq1 hag
      have ho1 := ho.ag hag (by omega)
      obtain ⟨zs, p1, -⟩ := id ho1
      (repeat (first | refine pm_W.ts rfl rfl ?_ | refine pm_W.tl rfl rfl ?_))
      refine pm_W.callV (d' := 0) rfl rfl rfl rfl (fr_ble rfl) p1 (fr_ble rfl) (ct_B_count ho1 ?_)
      refine pm_W.icmp rfl (fun c => ?_) (fun c => ?_)
      · have he : e = bs.length := by omega
        subst he
        exact pm_W.ret rfl rfl (k h1 hq1 hag)
      · have c : ¬ nI bs.length < nI (e + 1) := c
        rw [nI_ltI (by omega) (by omega)] at c
        omega
    | succ r ih =>
      intro e h1 he hq1 hag
      have ho1 := ho.ag hag (by omega)
      obtain ⟨zs, p1, -⟩ := id ho1
      have hc1 : cz_R h1 a z := hag.at (by omega) hc
      obtain ⟨es, is, q1, -⟩ := id hq1
      have hin := cz_cut_inv (bs := bs) hz e (by omega)
      (repeat (first | refine pm_W.ts rfl rfl ?_ | refine pm_W.tl rfl rfl ?_))
      refine pm_W.callV (d' := 0) rfl rfl rfl rfl (fr_ble rfl) p1 (fr_ble rfl) (ct_B_count ho1 ?_)
      refine pm_W.icmp rfl (fun c => ?_) (fun c => ?_)
      · have c : nI bs.length < nI (e + 1) := c
        rw [nI_ltI (by omega) (by omega)] at c
        omega
      · (repeat (first | refine pm_W.ts rfl rfl ?_ | refine pm_W.tl rfl rfl ?_))
        refine pm_W.callV rfl rfl rfl rfl (fr_ble rfl) hc1 (fr_ble rfl) (ct_C_isEnd hc1 hz ho1 (by omega) (by omega) ?_)
        refine pm_W.ifz rfl (fun c2 => ?_) (fun c2 => ?_)
        · have c2 := fr_b0 c2
          (repeat (first | refine pm_W.ts rfl rfl ?_ | refine pm_W.tl rfl rfl ?_))
          refine pm_W.goto rfl ?_
          have hne : cz_cut z bs (e + 1) = cz_cut z bs e := by
            show (if _ then _ else _) = _
            rw [if_neg (by rw [c2]; decide)]
          have := ih (e + 1) h1 (by omega) (by rw [hne]; exact hq1) hag
          rw [hne, ← fr_inc (e + 1)] at this
          exact this
        · have c2 := fr_b1 c2
          have hye : cz_cut z bs (e + 1) = ((cz_cut z bs e).1 ++ [(e + 1, bt_id bs (nI (cz_cut z bs e).2) (e + 1 - (cz_cut z bs e).2))], e + 1) := by
            show (if _ then _ else _) = _
            rw [if_pos c2]
          have e1 : nI (e + 1) - nI (cz_cut z bs e).2 = nI (e + 1 - (cz_cut z bs e).2) := fr_sub (by omega)
          (repeat (first | refine pm_W.ts rfl rfl ?_ | refine pm_W.tl rfl rfl ?_))
          rw [e1]
          refine pm_W.callV rfl rfl rfl rfl (fr_ble rfl) p1 (fr_ble rfl) (ct_B_idOf ho1 (by omega) ?_)
          refine pm_W.callV (d' := 0) rfl rfl rfl rfl (fr_ble rfl) q1 (fr_ble rfl) (ct_P_add hq1 (by have := hin.2.1 (by omega); omega) (fun h2 hq2 hag2 => ?_))
          (repeat (first | refine pm_W.ts rfl rfl ?_ | refine pm_W.tl rfl rfl ?_))
          refine pm_W.goto rfl ?_
          have := ih (e + 1) h2 (by omega) (by rw [hye]; exact hq2) (hag.tr hag2)
          rw [hye, ← fr_inc (e + 1)] at this
          exact this
  obtain ⟨es, is, q1, -⟩ := id hq
  unfold pm_X
  (repeat (first | refine pm_W.ts rfl rfl ?_ | refine pm_W.tl rfl rfl ?_))
  refine pm_W.callV (d' := 0) rfl rfl rfl rfl (fr_ble rfl) q1 (fr_ble rfl) (ct_P_clear hq (fun h1 hq1 hag => ?_))
  (iterate 4 (first | refine pm_W.ts rfl rfl ?_ | refine pm_W.tl rfl rfl ?_))
  exact loop bs.length 0 h1 (by omega) hq1 hag
end CUTTER
