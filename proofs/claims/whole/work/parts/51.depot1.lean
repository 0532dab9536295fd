section DEPOT1
variable {xs : List Int32} {h : pm_H} {b : Nat} {z : cz_N} {im : Nat → dp_P} {st ca : dp_K} {sd : Nat → List Int32 × dp_P} {ws ta : List Nat} {f : Bool} {S : tr_S} {Q : Option Value → pm_H → Prop}
theorem fr_4 {x : Int32} (h0 : ¬ x < 0) {n : Nat} (hn : n < 2 ^ 31) (h1 : ¬ nI n ≤ x) : ∃ i : Nat, i < n ∧ x = nI i := by
  obtain ⟨j, hj, rfl⟩ := fr_nat (fr_nlt h0)
  exact ⟨j, by rw [nI_leI hn hj] at h1; omega, rfl⟩
theorem fr_no {x : Int32} {n : Nat} (hn : n < 2 ^ 31) (h : x < 0 ∨ nI n ≤ x) : ∀ i : Nat, i < n → x ≠ nI i := by
  intro i hi e
  subst e
  rcases h with h | h
  · exact nI_pos (by omega) h
  · rw [nI_leI hn (by omega)] at h; omega
theorem ct_D_isByte {x : Int32} (k1 : ∀ i : Nat, i < 256 → x = nI i → Q (some (.int 1)) h) (k0 : (∀ i : Nat, i < 256 → x ≠ nI i) → Q (some (.int 0)) h) : pm_X xs 0 mD_isByte [.int x] h Q := by
  unfold pm_X
  (repeat (first | refine pm_W.ts rfl rfl ?_ | refine pm_W.tl rfl rfl ?_))
  refine pm_W.ifz rfl (fun c => ?_) (fun c => ?_)
  · (repeat (first | refine pm_W.ts rfl rfl ?_ | refine pm_W.tl rfl rfl ?_))
    exact pm_W.iret rfl rfl (k0 (fr_no (by omega) (Or.inl c)))
  · (repeat (first | refine pm_W.ts rfl rfl ?_ | refine pm_W.tl rfl rfl ?_))
    refine pm_W.icmp rfl (fun c2 => ?_) (fun c2 => ?_)
    · have c2 : nI 255 < x := c2
      (repeat (first | refine pm_W.ts rfl rfl ?_ | refine pm_W.tl rfl rfl ?_))
      refine pm_W.iret rfl rfl (k0 (fr_no (by omega) (Or.inr ?_)))
      rw [fr_lt, nI_toInt (by omega)] at c2
      rw [fr_le, nI_toInt (by omega)]
      omega
    · have c2 : ¬ nI 255 < x := c2
      (repeat (first | refine pm_W.ts rfl rfl ?_ | refine pm_W.tl rfl rfl ?_))
      refine pm_W.goto rfl ?_
      obtain ⟨i, hi, e⟩ := fr_4 (n := 256) c (by omega) (by
        rw [fr_lt, nI_toInt (by omega)] at c2
        rw [fr_le, nI_toInt (by omega)]
        omega)
      exact pm_W.iret rfl rfl (k1 i hi e)
theorem ct_D_isSeed {x : Int32} (k1 : ∀ i : Nat, i < 2 → x = nI i → Q (some (.int 1)) h) (k0 : (∀ i : Nat, i < 2 → x ≠ nI i) → Q (some (.int 0)) h) : pm_X xs 0 mD_isSeed [.int x] h Q := by
  unfold pm_X
  (repeat (first | refine pm_W.ts rfl rfl ?_ | refine pm_W.tl rfl rfl ?_))
  refine pm_W.ifz rfl (fun c => ?_) (fun c => ?_)
  · (repeat (first | refine pm_W.ts rfl rfl ?_ | refine pm_W.tl rfl rfl ?_))
    exact pm_W.iret rfl rfl (k0 (fr_no (by omega) (Or.inl c)))
  · (repeat (first | refine pm_W.ts rfl rfl ?_ | refine pm_W.tl rfl rfl ?_))
    refine pm_W.icmp rfl (fun c2 => ?_) (fun c2 => ?_)
    · (repeat (first | refine pm_W.ts rfl rfl ?_ | refine pm_W.tl rfl rfl ?_))
      exact pm_W.iret rfl rfl (k0 (fr_no (by omega) (Or.inr c2)))
    · (repeat (first | refine pm_W.ts rfl rfl ?_ | refine pm_W.tl rfl rfl ?_))
      refine pm_W.goto rfl ?_
      obtain ⟨i, hi, e⟩ := fr_4 (n := 2) c (by omega) c2
      exact pm_W.iret rfl rfl (k1 i hi e)
theorem dp_im4 {i : Nat} (hi : i < 4) : ([some (b + 3), some (b + 6), some (b + 9), some (b + 12)] : List (Option Nat)).getD i none = some (b + 3 + 3 * i) := by
  match i, hi with
  | 0, _ => rfl
  | 1, _ => rfl
  | 2, _ => rfl
  | 3, _ => rfl
theorem dp_sd2 {s : Nat} (hs : s < 2) : ([some (b + 114), some (b + 120)] : List (Option Nat)).getD s none = some (b + 114 + 6 * s) := by
  match s, hs with
  | 0, _ => rfl
  | 1, _ => rfl
theorem ct_D_imageNumbered {x : Int32} (hb : dp_R h b z im st ca sd ws ta f S) (k1 : ∀ i : Nat, i < 4 → x = nI i → im i ≠ [] → Q (some (.ref (b + 3 + 3 * i))) h) (k0 : (∀ i : Nat, i < 4 → x = nI i → im i = []) → Q (some .null) h) : pm_X xs 1 mD_imageNumbered [.ref b, .int x] h Q := by
  obtain ⟨c1, c2, c3, c4, c5, c6, c7, c8, c9, c10, c11, c12, c13, c14⟩ := id hb
  have out : (x < 0 ∨ nI 4 ≤ x) → pm_W xs 1 mD_imageNumbered 21 [.ref b, .int x] [] h Q := by
    intro q
    (repeat (first | refine pm_W.ts rfl rfl ?_ | refine pm_W.tl rfl rfl ?_))
    exact pm_W.aretN rfl rfl (k0 (fun i hi e => absurd e (fr_no (by omega) q i hi)))
  unfold pm_X
  (repeat (first | refine pm_W.ts rfl rfl ?_ | refine pm_W.tl rfl rfl ?_))
  refine pm_W.ifz rfl (fun c => out (Or.inl c)) (fun c => ?_)
  (repeat (first | refine pm_W.ts rfl rfl ?_ | refine pm_W.tl rfl rfl ?_))
  refine pm_W.icmp rfl (fun d => out (Or.inr d)) (fun d => ?_)
  obtain ⟨i, hi, rfl⟩ := fr_4 (n := 4) c (by omega) d
  (repeat (first | refine pm_W.ts rfl rfl ?_ | refine pm_W.tl rfl rfl ?_ | refine pm_W.get rfl rfl c1 rfl ?_))
  refine pm_W.aald rfl c3 (pm_ix_ok (j := i) hi (show 4 < 2 ^ 31 by omega)) (by decide) ?_
  rw [dp_im4 hi]
  have hp := c4 i hi
  have hl : (im i).length ≤ 15 := by obtain ⟨es, is, -, -, -, -, -, -, -, g⟩ := id hp; exact g
  obtain ⟨es, is, p1, -⟩ := id hp
  refine pm_W.callV rfl rfl rfl rfl (fr_ble rfl) p1 (fr_ble rfl) (ct_P_count hp ?_)
  refine pm_W.ifz rfl (fun e => ?_) (fun e => ?_)
  · have e : ¬ nI (im i).length = nI 0 := e
    rw [nI_eq (by omega) (by omega)] at e
    (repeat (first | refine pm_W.ts rfl rfl ?_ | refine pm_W.tl rfl rfl ?_ | refine pm_W.get rfl rfl c1 rfl ?_))
    refine pm_W.aald rfl c3 (pm_ix_ok (j := i) hi (show 4 < 2 ^ 31 by omega)) (by decide) ?_
    rw [dp_im4 hi]
    exact pm_W.aretR rfl rfl (k1 i hi rfl (fun q => e (by rw [q]; rfl)))
  · have e : ¬ ¬ nI (im i).length = nI 0 := e
    have e := Classical.not_not.mp e
    rw [nI_eq (by omega) (by omega)] at e
    (repeat (first | refine pm_W.ts rfl rfl ?_ | refine pm_W.tl rfl rfl ?_))
    refine pm_W.aretN rfl rfl (k0 (fun j hj ej => ?_))
    rw [nI_eq (by omega) (by omega)] at ej
    subst ej
    exact List.eq_nil_of_length_eq_zero e
theorem ct_D_freeImage (hb : dp_R h b z im st ca sd ws ta f S) (k1 : ∀ i : Nat, i < 4 → im i = [] → (∀ j, j < i → im j ≠ []) → Q (some (.int (nI i))) h) (k0 : (∀ i, i < 4 → im i ≠ []) → Q (some (.int (-1))) h) : pm_X xs 2 mD_freeImage [.ref b] h Q := by
  obtain ⟨c1, -⟩ := id hb
  have loop : ∀ (r i : Nat), i + r = 4 → (∀ j, j < i → im j ≠ []) → pm_W xs 2 mD_freeImage 2 [.ref b, .int (nI i)] [] h Q := by
    intro r
    induction r with
    | zero =>
      intro i hi hj
      (repeat (first | refine pm_W.ts rfl rfl ?_ | refine pm_W.tl rfl rfl ?_))
      refine pm_W.icmp rfl (fun c => ?_) (fun c => ?_)
      · (repeat (first | refine pm_W.ts rfl rfl ?_ | refine pm_W.tl rfl rfl ?_))
        exact pm_W.iret rfl rfl (k0 (by rw [show i = 4 by omega] at hj; exact hj))
      · have c : ¬ nI 4 ≤ nI i := c
        rw [nI_leI (by omega) (by omega)] at c
        omega
    | succ r ih =>
      intro i hi hj
      (repeat (first | refine pm_W.ts rfl rfl ?_ | refine pm_W.tl rfl rfl ?_))
      refine pm_W.icmp rfl (fun c => ?_) (fun c => ?_)
      · have c : nI 4 ≤ nI i := c
        rw [nI_leI (by omega) (by omega)] at c
        omega
      · (repeat (first | refine pm_W.ts rfl rfl ?_ | refine pm_W.tl rfl rfl ?_))
        refine pm_W.callV rfl rfl rfl rfl (fr_ble rfl) c1 (fr_ble rfl) (ct_D_imageNumbered hb (fun j hj4 ej hne => ?_) (fun hno => ?_))
        · rw [nI_eq (by omega) (by omega)] at ej
          subst ej
          refine pm_W.ifnonnullR rfl ?_
          (repeat (first | refine pm_W.ts rfl rfl ?_ | refine pm_W.tl rfl rfl ?_))
          refine pm_W.goto rfl ?_
          have := ih (i + 1) (by omega) (fun j hj2 => by
            by_cases e : j = i
            · rw [e]; exact hne
            · exact hj j (by omega))
          rw [← fr_inc] at this
          exact this
        · refine pm_W.ifnonnullN rfl ?_
          (repeat (first | refine pm_W.ts rfl rfl ?_ | refine pm_W.tl rfl rfl ?_))
          exact pm_W.iret rfl rfl (k1 i (by omega) (hno i (by omega) rfl) hj)
  unfold pm_X
  (iterate 2 (first | refine pm_W.ts rfl rfl ?_ | refine pm_W.tl rfl rfl ?_))
  exact loop 4 0 (by omega) (fun j hj => by omega)
def dp_cnt (im : Nat → dp_P) : Nat → Nat
  | 0 => 0
  | n + 1 => dp_cnt im n + (if im n = [] then 0 else 1)
theorem ct_D_imagesThere (hb : dp_R h b z im st ca sd ws ta f S) (k : Q (some (.int (nI (dp_cnt im 4)))) h) : pm_X xs 2 mD_imagesThere [.ref b] h Q := by
  obtain ⟨c1, -⟩ := id hb
  have loop : ∀ (r i : Nat), i + r = 4 → pm_W xs 2 mD_imagesThere 4 [.ref b, .int (nI (dp_cnt im i)), .int (nI i)] [] h Q := by
    intro r
    induction r with
    | zero =>
      intro i hi
      (repeat (first | refine pm_W.ts rfl rfl ?_ | refine pm_W.tl rfl rfl ?_))
      refine pm_W.icmp rfl (fun c => ?_) (fun c => ?_)
      · (repeat (first | refine pm_W.ts rfl rfl ?_ | refine pm_W.tl rfl rfl ?_))
        rw [show i = 4 by omega]
        exact pm_W.iret rfl rfl k
      · have c : ¬ nI 4 ≤ nI i := c
        rw [nI_leI (by omega) (by omega)] at c
        omega
    | succ r ih =>
      intro i hi
      have i1 := ih (i + 1) (by omega)
      (repeat (first | refine pm_W.ts rfl rfl ?_ | refine pm_W.tl rfl rfl ?_))
      refine pm_W.icmp rfl (fun c => ?_) (fun c => ?_)
      · have c : nI 4 ≤ nI i := c
        rw [nI_leI (by omega) (by omega)] at c
        omega
      · (repeat (first | refine pm_W.ts rfl rfl ?_ | refine pm_W.tl rfl rfl ?_))
        refine pm_W.callV rfl rfl rfl rfl (fr_ble rfl) c1 (fr_ble rfl) (ct_D_imageNumbered hb (fun j hj4 ej hne => ?_) (fun hno => ?_))
        · rw [nI_eq (by omega) (by omega)] at ej
          subst ej
          refine pm_W.ifnullR rfl ?_
          rw [show dp_cnt im (i + 1) = dp_cnt im i + 1 from by show _ + _ = _; rw [if_neg hne], ← fr_inc i, ← fr_inc (dp_cnt im i)] at i1
          (repeat (first | refine pm_W.ts rfl rfl ?_ | refine pm_W.tl rfl rfl ?_))
          refine pm_W.goto rfl ?_
          exact i1
        · refine pm_W.ifnullN rfl ?_
          rw [show dp_cnt im (i + 1) = dp_cnt im i from by show _ + _ = _; rw [if_pos (hno i (by omega) rfl)]; rfl, ← fr_inc i] at i1
          (repeat (first | refine pm_W.ts rfl rfl ?_ | refine pm_W.tl rfl rfl ?_))
          refine pm_W.goto rfl ?_
          exact i1
  unfold pm_X
  (iterate 4 (first | refine pm_W.ts rfl rfl ?_ | refine pm_W.tl rfl rfl ?_))
  exact loop 4 0 (by omega)
def dp_in (im : Nat → dp_P) (w : Int32) : Prop := ∃ i, i < 4 ∧ ∃ k, k < (im i).length ∧ pl_i (im i) k = w
theorem ct_D_isIdOfAnImage {w : Int32} (hb : dp_R h b z im st ca sd ws ta f S) (k1 : dp_in im w → Q (some (.int 1)) h) (k0 : ¬ dp_in im w → Q (some (.int 0)) h) : pm_X xs 1 mD_isIdOfAnImage [.ref b, .int w] h Q := by
  obtain ⟨c1, c2, c3, c4, c5, c6, c7, c8, c9, c10, c11, c12, c13, c14⟩ := id hb
  have loop : ∀ (r i : Nat), i + r = 4 → (∀ j, j < i → ∀ k, k < (im j).length → pl_i (im j) k ≠ w) → pm_W xs 1 mD_isIdOfAnImage 2 [.ref b, .int w, .int (nI i)] [] h Q := by
    intro r
    induction r with
    | zero =>
      intro i hi hj
      (repeat (first | refine pm_W.ts rfl rfl ?_ | refine pm_W.tl rfl rfl ?_))
      refine pm_W.icmp rfl (fun c => ?_) (fun c => ?_)
      · (repeat (first | refine pm_W.ts rfl rfl ?_ | refine pm_W.tl rfl rfl ?_))
        refine pm_W.iret rfl rfl (k0 ?_)
        rintro ⟨j, hj4, k, hk, e⟩
        exact hj j (by omega) k hk e
      · have c : ¬ nI 4 ≤ nI i := c
        rw [nI_leI (by omega) (by omega)] at c
        omega
    | succ r ih =>
      intro i hi hj
      (repeat (first | refine pm_W.ts rfl rfl ?_ | refine pm_W.tl rfl rfl ?_))
      refine pm_W.icmp rfl (fun c => ?_) (fun c => ?_)
      · have c : nI 4 ≤ nI i := c
        rw [nI_leI (by omega) (by omega)] at c
        omega
      · (repeat (first | refine pm_W.ts rfl rfl ?_ | refine pm_W.tl rfl rfl ?_ | refine pm_W.get rfl rfl c1 rfl ?_))
        refine pm_W.aald rfl c3 (pm_ix_ok (j := i) (show i < 4 by omega) (show 4 < 2 ^ 31 by omega)) (by decide) ?_
        rw [dp_im4 (by omega)]
        have hp := c4 i (by omega)
        obtain ⟨es, is, p1, p2, p3, p4, p5, p6, p7, p8⟩ := id hp
        (repeat (first | refine pm_W.ts rfl rfl ?_ | refine pm_W.tl rfl rfl ?_))
        refine pm_W.callV rfl rfl rfl rfl (fr_ble rfl) p1 (fr_ble rfl) (ct_P_firstWithId hp (fun k hk e _ => ?_) (fun hno => ?_))
        · (repeat (first | refine pm_W.ts rfl rfl ?_ | refine pm_W.tl rfl rfl ?_))
          refine pm_W.icmp rfl (fun e2 => ?_) (fun e2 => ?_)
          · have e2 : nI k = -1 := e2
            have : (nI k).toInt = -1 := by rw [e2]; rfl
            rw [nI_toInt (by omega)] at this
            omega
          · (repeat (first | refine pm_W.ts rfl rfl ?_ | refine pm_W.tl rfl rfl ?_))
            exact pm_W.iret rfl rfl (k1 ⟨i, by omega, k, hk, e⟩)
        · (repeat (first | refine pm_W.ts rfl rfl ?_ | refine pm_W.tl rfl rfl ?_))
          refine pm_W.icmp rfl (fun e2 => ?_) (fun e2 => absurd rfl e2)
          (repeat (first | refine pm_W.ts rfl rfl ?_ | refine pm_W.tl rfl rfl ?_))
          refine pm_W.goto rfl ?_
          have := ih (i + 1) (by omega) (fun j hj2 k hk => by
            by_cases e : j = i
            · subst e; exact hno k hk
            · exact hj j (by omega) k hk)
          rw [← fr_inc] at this
          exact this
  unfold pm_X
  (iterate 2 (first | refine pm_W.ts rfl rfl ?_ | refine pm_W.tl rfl rfl ?_))
  exact loop 4 0 (by omega) (fun j hj => by omega)
theorem ct_D_discard {x : Int32} (hb : dp_R h b z im st ca sd ws ta f S) (k1 : ∀ i : Nat, i < 4 → x = nI i → im i ≠ [] → ∀ h' : pm_H, dp_R h' b z (fr_up im i []) st ca sd ws ta f S → fr_ag b (b + 185) h h' → Q (some (.int 1)) h') (k0 : (∀ i : Nat, i < 4 → x = nI i → im i = []) → Q (some (.int 0)) h) : pm_X xs 2 mD_discard [.ref b, .int x] h Q := by
  obtain ⟨c1, c2, c3, c4, -⟩ := id hb
  unfold pm_X
  (repeat (first | refine pm_W.ts rfl rfl ?_ | refine pm_W.tl rfl rfl ?_))
  refine pm_W.callV rfl rfl rfl rfl (fr_ble rfl) c1 (fr_ble rfl) (ct_D_imageNumbered hb (fun i hi e hne => ?_) (fun hno => ?_))
  · (repeat (first | refine pm_W.ts rfl rfl ?_ | refine pm_W.tl rfl rfl ?_))
    refine pm_W.ifnonnullR rfl ?_
    (repeat (first | refine pm_W.ts rfl rfl ?_ | refine pm_W.tl rfl rfl ?_))
    have hp := c4 i hi
    obtain ⟨es, is, p1, -⟩ := id hp
    refine pm_W.callV (d' := 0) rfl rfl rfl rfl (fr_ble rfl) p1 (fr_ble rfl) (ct_P_clear hp (fun g hg hag => ?_))
    (repeat (first | refine pm_W.ts rfl rfl ?_ | refine pm_W.tl rfl rfl ?_))
    exact pm_W.iret rfl rfl (k1 i hi e hne g (hb.uim hi hg hag) (hag.wide (by omega) (by omega)))
  · (repeat (first | refine pm_W.ts rfl rfl ?_ | refine pm_W.tl rfl rfl ?_))
    refine pm_W.ifnonnullN rfl ?_
    (repeat (first | refine pm_W.ts rfl rfl ?_ | refine pm_W.tl rfl rfl ?_))
    exact pm_W.iret rfl rfl (k0 hno)
theorem ct_D_root {x : Int32} (hb : dp_R h b z im st ca sd ws ta f S) (k1 : ∀ i : Nat, i < 4 → x = nI i → im i ≠ [] → ∀ A : List Int32, Q (some (.int (rt_root 15 ((im i).map (fun q => q.2))))) (h.1 ++ [.inl (false, A)], h.2 + 15)) (k0 : (∀ i : Nat, i < 4 → x = nI i → im i = []) → Q (some (.int 0)) h) : pm_X xs 3 mD_root [.ref b, .int x] h Q := by
  obtain ⟨c1, c2, c3, c4, -⟩ := id hb
  unfold pm_X
  (repeat (first | refine pm_W.ts rfl rfl ?_ | refine pm_W.tl rfl rfl ?_))
  refine pm_W.callV (d' := 1) rfl rfl rfl rfl (fr_ble rfl) c1 (fr_ble rfl) (ct_D_imageNumbered hb (fun i hi e hne => ?_) (fun hno => ?_))
  · (repeat (first | refine pm_W.ts rfl rfl ?_ | refine pm_W.tl rfl rfl ?_))
    refine pm_W.ifnonnullR rfl ?_
    (repeat (first | refine pm_W.ts rfl rfl ?_ | refine pm_W.tl rfl rfl ?_))
    have hp := c4 i hi
    obtain ⟨es, is, p1, -⟩ := id hp
    refine pm_W.callV rfl rfl rfl rfl (fr_ble rfl) p1 (fr_ble rfl) (ct_P_rootId hp (List.length_pos_iff.mpr hne) (fun A => ?_))
    exact pm_W.iret rfl rfl (k1 i hi e hne A)
  · (repeat (first | refine pm_W.ts rfl rfl ?_ | refine pm_W.tl rfl rfl ?_))
    refine pm_W.ifnonnullN rfl ?_
    (repeat (first | refine pm_W.ts rfl rfl ?_ | refine pm_W.tl rfl rfl ?_))
    refine pm_W.goto rfl ?_
    exact pm_W.iret rfl rfl (k0 hno)
def dp_pc (e : Nat) (i : Int32) : Int64 := (nI e).toInt64 <<< ((32 : Int32).toInt64 &&& 63) + (i.toInt64 &&& 4294967295)
theorem ct_D_piece {x y : Int32} (hb : dp_R h b z im st ca sd ws ta f S) (k1 : ∀ i k : Nat, i < 4 → x = nI i → k < (im i).length → y = nI k → Q (some (.long (dp_pc (pl_e (im i) k) (pl_i (im i) k)))) h) (k0 : (∀ i k : Nat, i < 4 → x = nI i → k < (im i).length → y ≠ nI k) → Q (some (.long (-1))) h) : pm_X xs 2 mD_piece [.ref b, .int x, .int y] h Q := by
  obtain ⟨c1, c2, c3, c4, -⟩ := id hb
  unfold pm_X
  (repeat (first | refine pm_W.ts rfl rfl ?_ | refine pm_W.tl rfl rfl ?_))
  refine pm_W.callV rfl rfl rfl rfl (fr_ble rfl) c1 (fr_ble rfl) (ct_D_imageNumbered hb (fun i hi e hne => ?_) (fun hno => ?_))
  · (repeat (first | refine pm_W.ts rfl rfl ?_ | refine pm_W.tl rfl rfl ?_))
    refine pm_W.ifnullR rfl ?_
    (repeat (first | refine pm_W.ts rfl rfl ?_ | refine pm_W.tl rfl rfl ?_))
    have hp := c4 i hi
    obtain ⟨es, is, p1, p2, p3, p4, p5, p6, p7, p8⟩ := id hp
    refine pm_W.callV (d' := 0) rfl rfl rfl rfl (fr_ble rfl) p1 (fr_ble rfl) (ct_P_has hp ?_)
    refine pm_W.ifz rfl (fun d => ?_) (fun d => ?_)
    · have d := fr_b1 d
      obtain ⟨k, hk, rfl⟩ := pl_has_nat d p8
      (repeat (first | refine pm_W.ts rfl rfl ?_ | refine pm_W.tl rfl rfl ?_))
      refine pm_W.callV (d' := 0) rfl rfl rfl rfl (fr_ble rfl) p1 (fr_ble rfl) (ct_P_endOf hp (by omega) ?_)
      (repeat (first | refine pm_W.ts rfl rfl ?_ | refine pm_W.tl rfl rfl ?_))
      refine pm_W.callV rfl rfl rfl rfl (fr_ble rfl) p1 (fr_ble rfl) (ct_P_idOf hp hk ?_)
      (repeat (first | refine pm_W.ts rfl rfl ?_ | refine pm_W.tl rfl rfl ?_))
      refine pm_W.ldc2 rfl rfl ?_
      (repeat (first | refine pm_W.ts rfl rfl ?_ | refine pm_W.tl rfl rfl ?_))
      exact pm_W.lret rfl rfl (k1 i k hi e hk rfl)
    · have d : ¬ ¬ fr_b (pl_has (im i) y) = 0 := d
      have d := fr_b0 (Classical.not_not.mp d)
      refine pm_W.ldc2 rfl rfl ?_
      refine pm_W.lret rfl rfl (k0 (fun j k hj ej hk ek => ?_))
      rw [e, nI_eq (by omega) (by omega)] at ej
      subst ej
      rw [ek, show pl_has (im i) (nI k) = true from decide_eq_true ⟨nI_pos' (by omega), nI_lt hk (by omega)⟩] at d
      cases d
  · (repeat (first | refine pm_W.ts rfl rfl ?_ | refine pm_W.tl rfl rfl ?_))
    refine pm_W.ifnullN rfl ?_
    refine pm_W.ldc2 rfl rfl ?_
    refine pm_W.lret rfl rfl (k0 (fun j k hj ej hk ek => ?_))
    rw [hno j hj ej] at hk
    cases hk
end DEPOT1
