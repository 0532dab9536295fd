def sd_R (h : pm_H) (a : Nat) (bs : List Int32) (ps : List (Nat × Int32)) : Prop := h.1[a]? = some (.inr (.inr (kS, [.ref (a + 1), .ref (a + 3)]))) ∧ bt_R h (a + 1) 117 bs ∧ pl_R h (a + 3) ps
theorem sd_R.ag {h h' : pm_H} {a lo hi : Nat} {bs : List Int32} {ps : List (Nat × Int32)} (hb : sd_R h a bs ps) (e : fr_ag lo hi h h') (hd : a + 6 ≤ lo ∨ hi ≤ a) : sd_R h' a bs ps := ⟨e.at (by omega) hb.1, hb.2.1.ag e (by omega), hb.2.2.ag e (by omega)⟩
section SEED
variable {xs : List Int32} {h : pm_H} {a : Nat} {bs : List Int32} {ps : List (Nat × Int32)} {Q : Option Value → pm_H → Prop}
theorem ct_S_bytes (hb : sd_R h a bs ps) (k : Q (some (.ref (a + 1))) h) : pm_X xs 0 mS_bytes [.ref a] h Q := by
  obtain ⟨h1, h2, h3⟩ := hb
  unfold pm_X
  (repeat (first | refine pm_W.ts rfl rfl ?_ | refine pm_W.tl rfl rfl ?_ | refine pm_W.get rfl rfl h1 rfl ?_))
  exact pm_W.aretR rfl rfl k
theorem ct_S_cutWith {c : Nat} {z : cz_N} (hb : sd_R h a bs ps) (hc : cz_R h c z) (hz : cz_ok z) (hl : bs.length ≤ 117) (hd : c < a ∨ a + 6 ≤ c)
    (k : ∀ h' : pm_H, sd_R h' a bs (cz_cut z bs bs.length).1 → fr_ag a (a + 6) h h' → Q (some (.int (nI (cz_cut z bs bs.length).1.length))) h') : pm_X xs 5 mS_cutWith [.ref a, .ref c] h Q := by
  obtain ⟨h1, h2, h3⟩ := hb
  unfold pm_X
  (repeat (first | refine pm_W.ts rfl rfl ?_ | refine pm_W.tl rfl rfl ?_ | refine pm_W.get rfl rfl h1 rfl ?_))
  refine pm_W.callV rfl rfl rfl rfl (fr_ble rfl) hc (fr_ble rfl) (ct_C_cut hc hz h2 hl h3 (by omega) (by omega) (fun h' hp hag => ?_))
  have h1' := hag.at (by omega) h1
  (repeat (first | refine pm_W.ts rfl rfl ?_ | refine pm_W.tl rfl rfl ?_ | refine pm_W.get rfl rfl h1' rfl ?_))
  obtain ⟨es, is, q1, -⟩ := id hp
  refine pm_W.callV (d' := 0) rfl rfl rfl rfl (fr_ble rfl) q1 (fr_ble rfl) (ct_P_count hp ?_)
  exact pm_W.iret rfl rfl (k h' ⟨h1', h2.ag hag (by omega), hp⟩ (hag.wide (by omega) (by omega)))
def sd_g (bs : List Int32) (ps : List (Nat × Int32)) (w : Int32) (n i : Nat) : Prop := pl_i ps i = w ∧ pl_n ps i = nI n ∧ bt_id bs (nI (pl_s ps i)) n = w
theorem ct_S_startOfGood {w : Int32} {n : Nat} (hb : sd_R h a bs ps) (hn : n ≤ 1000) (k1 : ∀ i, i < ps.length → sd_g bs ps w n i → (∀ j, j < i → ¬ sd_g bs ps w n j) → Q (some (.int (nI (pl_s ps i)))) h) (k0 : (∀ j, j < ps.length → ¬ sd_g bs ps w n j) → Q (some (.int (-1))) h) : pm_X xs 3 mS_startOfGood [.ref a, .int w, .int (nI n)] h Q := by
  obtain ⟨h1, h2, h3⟩ := hb
  obtain ⟨es, is, q1, q2, q3, q4, q5, q6, q7, q8⟩ := id h3
  obtain ⟨ys, b1, -⟩ := id h2
  have loop : ∀ (r i : Nat) (v : Value), i + r = ps.length → (∀ j, j < i → ¬ sd_g bs ps w n j) → pm_W xs 3 mS_startOfGood 2 [.ref a, .int w, .int (nI n), .int (nI i), v] [] h Q := by
    intro r
    induction r with
    | zero =>
      intro i v hi hj
      (repeat (first | refine pm_W.ts rfl rfl ?_ | refine pm_W.tl rfl rfl ?_ | refine pm_W.get rfl rfl h1 rfl ?_))
      refine pm_W.callV (d' := 0) rfl rfl rfl rfl (fr_ble rfl) q1 (fr_ble rfl) (ct_P_count h3 ?_)
      refine pm_W.icmp rfl (fun c => ?_) (fun c => ?_)
      · (repeat (first | refine pm_W.ts rfl rfl ?_ | refine pm_W.tl rfl rfl ?_ | refine pm_W.get rfl rfl h1 rfl ?_))
        exact pm_W.iret rfl rfl (k0 (by rw [← hi]; exact hj))
      · have c : ¬ nI ps.length ≤ nI i := c
        rw [nI_leI (by omega) (by omega)] at c
        omega
    | succ r ih =>
      intro i v hi hj
      have next : ¬ sd_g bs ps w n i → pm_W xs 3 mS_startOfGood 64 [.ref a, .int w, .int (nI n), .int (nI i), .int (nI (pl_s ps i))] [] h Q := by
        intro c2
        (repeat (first | refine pm_W.ts rfl rfl ?_ | refine pm_W.tl rfl rfl ?_))
        refine pm_W.goto rfl ?_
        have := ih (i + 1) (.int (nI (pl_s ps i))) (by omega) (fun j hj2 => by
          by_cases hji : j = i
          · rw [hji]; exact c2
          · exact hj j (by omega))
        rw [← fr_inc] at this
        exact this
      (repeat (first | refine pm_W.ts rfl rfl ?_ | refine pm_W.tl rfl rfl ?_ | refine pm_W.get rfl rfl h1 rfl ?_))
      refine pm_W.callV (d' := 0) rfl rfl rfl rfl (fr_ble rfl) q1 (fr_ble rfl) (ct_P_count h3 ?_)
      refine pm_W.icmp rfl (fun c => ?_) (fun c => ?_)
      · have c : nI ps.length ≤ nI i := c
        rw [nI_leI (by omega) (by omega)] at c
        omega
      · (repeat (first | refine pm_W.ts rfl rfl ?_ | refine pm_W.tl rfl rfl ?_ | refine pm_W.get rfl rfl h1 rfl ?_))
        refine pm_W.callV (d' := 1) rfl rfl rfl rfl (fr_ble rfl) q1 (fr_ble rfl) (ct_P_startOf h3 (by omega) ?_)
        (repeat (first | refine pm_W.ts rfl rfl ?_ | refine pm_W.tl rfl rfl ?_ | refine pm_W.get rfl rfl h1 rfl ?_))
        refine pm_W.callV (d' := 1) rfl rfl rfl rfl (fr_ble rfl) q1 (fr_ble rfl) (ct_P_idOf h3 (by omega) ?_)
        (repeat (first | refine pm_W.ts rfl rfl ?_ | refine pm_W.tl rfl rfl ?_ | refine pm_W.get rfl rfl h1 rfl ?_))
        refine pm_W.icmp rfl (fun c2 => ?_) (fun c2 => ?_)
        · have c2 : ¬ pl_i ps i = w := c2
          exact next (fun z => c2 z.1)
        · have c2 : ¬ ¬ pl_i ps i = w := c2
          (repeat (first | refine pm_W.ts rfl rfl ?_ | refine pm_W.tl rfl rfl ?_ | refine pm_W.get rfl rfl h1 rfl ?_))
          refine pm_W.callV rfl rfl rfl rfl (fr_ble rfl) q1 (fr_ble rfl) (ct_P_lengthOf h3 (by omega) ?_)
          (repeat (first | refine pm_W.ts rfl rfl ?_ | refine pm_W.tl rfl rfl ?_ | refine pm_W.get rfl rfl h1 rfl ?_))
          refine pm_W.icmp rfl (fun c3 => ?_) (fun c3 => ?_)
          · have c3 : ¬ pl_n ps i = nI n := c3
            exact next (fun z => c3 z.2.1)
          · have c3 : ¬ ¬ pl_n ps i = nI n := c3
            (repeat (first | refine pm_W.ts rfl rfl ?_ | refine pm_W.tl rfl rfl ?_ | refine pm_W.get rfl rfl h1 rfl ?_))
            refine pm_W.callV rfl rfl rfl rfl (fr_ble rfl) b1 (fr_ble rfl) (ct_B_idOf h2 hn ?_)
            (repeat (first | refine pm_W.ts rfl rfl ?_ | refine pm_W.tl rfl rfl ?_ | refine pm_W.get rfl rfl h1 rfl ?_))
            refine pm_W.icmp rfl (fun c4 => ?_) (fun c4 => ?_)
            · have c4 : ¬ bt_id bs (nI (pl_s ps i)) n = w := c4
              exact next (fun z => c4 z.2.2)
            · have c4 : ¬ ¬ bt_id bs (nI (pl_s ps i)) n = w := c4
              (repeat (first | refine pm_W.ts rfl rfl ?_ | refine pm_W.tl rfl rfl ?_ | refine pm_W.get rfl rfl h1 rfl ?_))
              exact pm_W.iret rfl rfl (k1 i (by omega) ⟨Classical.not_not.mp c2, Classical.not_not.mp c3, Classical.not_not.mp c4⟩ hj)
  unfold pm_X
  (iterate 2 (first | refine pm_W.ts rfl rfl ?_ | refine pm_W.tl rfl rfl ?_))
  exact loop ps.length 0 pm_none (by omega) (fun j hj => by omega)
end SEED
theorem fr_div {a b : Nat} (ha : a < 2 ^ 31) (hb : b < 2 ^ 31) : nI a / nI b = nI (a / b) := by
  apply Int32.toInt_inj.mp
  have h1 : a / b ≤ a := Nat.div_le_self a b
  rw [Jvm.Kit.i32_div (by rw [nI_toInt ha]; omega), nI_toInt ha, nI_toInt hb, nI_toInt (by omega), Int.tdiv_eq_ediv_of_nonneg (by omega)]
  exact (Int.natCast_ediv a b).symm
def rt_j (p q : Int32) : Int32 := (p * 31 + q) ^^^ pm_ushr q 7
def rt_at (l : List Int32) (j : Nat) : Int32 := if 2 * j + 1 < l.length then rt_j (l.getD (2 * j) 0) (l.getD (2 * j + 1) 0) else l.getD (2 * j) 0
def rt_up (l : List Int32) : List Int32 := (List.range ((l.length + 1) / 2)).map (rt_at l)
def rt_root : Nat → List Int32 → Int32
  | 0, l => l.getD 0 0
  | f + 1, l => if 1 < l.length then rt_root f (rt_up l) else l.getD 0 0
theorem rt_up_len {l : List Int32} : (rt_up l).length = (l.length + 1) / 2 := by simp [rt_up]
theorem rt_up_at {l : List Int32} {j : Nat} (hj : j < (l.length + 1) / 2) : (rt_up l).getD j 0 = rt_at l j := by
  simp [rt_up, hj]
def rt_S (l A : List Int32) (j : Nat) : Prop := (∀ t, t < j → A.getD t 0 = rt_at l t) ∧ ∀ t, 2 * j ≤ t → t < l.length → A.getD t 0 = l.getD t 0
theorem rt_S0 {l A : List Int32} (h : ∀ t, t < l.length → A.getD t 0 = l.getD t 0) : rt_S l A 0 := ⟨fun t ht => by omega, fun t _ ht => h t ht⟩
theorem fr_getD_set {A : List Int32} {j t : Nat} {x : Int32} (hj : j < A.length) : (A.set j x).getD t 0 = if t = j then x else A.getD t 0 := by
  by_cases h : t = j
  · subst h; simp [hj]
  · rw [if_neg h, List.getD_eq_getElem?_getD, List.getElem?_set_ne (fun z => h z.symm), List.getD_eq_getElem?_getD]
theorem rt_S1 {l A : List Int32} {j : Nat} (h : rt_S l A j) (hj : 2 * j < l.length) (hA : l.length ≤ A.length) : rt_S l (A.set j (if 2 * j + 1 < l.length then rt_j (A.getD (2 * j) 0) (A.getD (2 * j + 1) 0) else A.getD (2 * j) 0)) (j + 1) := by
  refine ⟨fun t ht => ?_, fun t h1 h2 => ?_⟩
  · rw [fr_getD_set (by omega)]
    by_cases e : t = j
    · rw [if_pos e, e]
      unfold rt_at
      by_cases c : 2 * j + 1 < l.length
      · rw [if_pos c, if_pos c, h.2 _ (Nat.le_refl _) hj, h.2 _ (by omega) c]
      · rw [if_neg c, if_neg c, h.2 _ (Nat.le_refl _) hj]
    · rw [if_neg e]
      exact h.1 t (by omega)
  · rw [fr_getD_set (by omega), if_neg (by omega)]
    exact h.2 t (by omega) h2
section ROOT
variable {xs : List Int32} {h : pm_H} {a : Nat} {ps : List (Nat × Int32)} {Q : Option Value → pm_H → Prop}
theorem ct_P_joined {p q : Int32} (k : Q (some (.int (rt_j p q))) h) : pm_X xs 0 mP_joined [.int p, .int q] h Q := by
  unfold pm_X
  (repeat (first | refine pm_W.ts rfl rfl ?_ | refine pm_W.tl rfl rfl ?_))
  exact pm_W.iret rfl rfl k
theorem ct_P_joinPairs {l A : List Int32} (hA : h.1[a]? = some (.inl (false, A))) (hl : l.length ≤ A.length) (hA2 : A.length ≤ 100) (hs : ∀ t, t < l.length → A.getD t 0 = l.getD t 0)
    (k : ∀ A' : List Int32, A'.length = A.length → (∀ t, t < (l.length + 1) / 2 → A'.getD t 0 = (rt_up l).getD t 0) → Q none (h.1.set a (.inl (false, A')), h.2)) : pm_X xs 1 mP_joinPairs [.ref a, .int (nI l.length)] h Q := by
  have loop : ∀ (r j : Nat) (A' : List Int32) (g : pm_H), 2 * j + r = l.length + 1 → A'.length = A.length → rt_S l A' j → g = (h.1.set a (.inl (false, A')), h.2) → pm_W xs 1 mP_joinPairs 2 [.ref a, .int (nI l.length), .int (nI (2 * j))] [] g Q := by
    intro r
    induction r using Nat.strongRecOn with
    | ind r ih =>
      intro j A' g hr hA' hS hg
      have hgA : g.1[a]? = some (.inl (false, A')) := by rw [hg]; exact fr_set hA
      (repeat (first | refine pm_W.ts rfl rfl ?_ | refine pm_W.tl rfl rfl ?_))
      refine pm_W.icmp rfl (fun c => ?_) (fun c => ?_)
      · have c : nI l.length ≤ nI (2 * j) := c
        rw [nI_leI (by omega) (by omega)] at c
        rw [hg]
        exact pm_W.ret rfl rfl (k A' hA' (fun t ht => by rw [rt_up_at ht]; exact hS.1 t (by omega)))
      · have c : ¬ nI l.length ≤ nI (2 * j) := c
        rw [nI_leI (by omega) (by omega)] at c
        have e1 : nI (2 * j) / Int32.ofInt 2 = nI j := by
          have := fr_div (a := 2 * j) (b := 2) (by omega) (by omega)
          rw [show 2 * j / 2 = j by omega] at this
          exact this
        have e2 : nI (2 * j) + Int32.ofInt 1 = nI (2 * j + 1) := fr_inc _
        have e3 : nI (2 * j) + Int32.ofInt 2 = nI (2 * (j + 1)) := nI_add (2 * j) 2
        have fin : ∀ x : Int32, x = (if 2 * j + 1 < l.length then rt_j (A'.getD (2 * j) 0) (A'.getD (2 * j + 1) 0) else A'.getD (2 * j) 0) → pm_W xs 1 mP_joinPairs 35 [.ref a, .int (nI l.length), .int (nI (2 * j))] [.int x, .int (nI j), .ref a] g Q := by
          intro x hx
          refine pm_W.iast rfl hgA (pm_ix_ok (j := j) (by omega) (by omega)) ?_
          (repeat (first | refine pm_W.ts rfl rfl ?_ | refine pm_W.tl rfl rfl ?_))
          refine pm_W.goto rfl ?_
          rw [e3]
          refine ih (r - 2) (by omega) (j + 1) (A'.set j x) _ (by omega) (by rw [List.length_set]; exact hA') (by rw [hx]; exact rt_S1 hS (by omega) (by omega)) ?_
          rw [hg]
          show (List.set (h.1.set a _) a _, h.2) = _
          rw [List.set_set]
        (iterate 3 (first | refine pm_W.ts rfl rfl ?_ | refine pm_W.tl rfl rfl ?_))
        refine pm_W.idiv rfl (by decide) ?_
        rw [e1]
        (repeat (first | refine pm_W.ts rfl rfl ?_ | refine pm_W.tl rfl rfl ?_))
        rw [e2]
        refine pm_W.icmp rfl (fun c2 => ?_) (fun c2 => ?_)
        · have c2 : nI l.length ≤ nI (2 * j + 1) := c2
          rw [nI_leI (by omega) (by omega)] at c2
          (repeat (first | refine pm_W.ts rfl rfl ?_ | refine pm_W.tl rfl rfl ?_))
          refine pm_W.iald rfl hgA (pm_ix_ok (j := 2 * j) (by omega) (by omega)) ?_
          exact fin _ (by rw [if_neg (by omega)])
        · have c2 : ¬ nI l.length ≤ nI (2 * j + 1) := c2
          rw [nI_leI (by omega) (by omega)] at c2
          (repeat (first | refine pm_W.ts rfl rfl ?_ | refine pm_W.tl rfl rfl ?_))
          refine pm_W.iald rfl hgA (pm_ix_ok (j := 2 * j) (by omega) (by omega)) ?_
          (repeat (first | refine pm_W.ts rfl rfl ?_ | refine pm_W.tl rfl rfl ?_))
          rw [e2]
          refine pm_W.iald rfl hgA (pm_ix_ok (j := 2 * j + 1) (by omega) (by omega)) ?_
          refine pm_W.callS (d' := 0) rfl rfl rfl rfl (fr_ble rfl) (fr_ble rfl) (ct_P_joined ?_)
          refine pm_W.goto rfl ?_
          exact fin _ (by rw [if_pos (by omega)])
  unfold pm_X
  (iterate 2 (first | refine pm_W.ts rfl rfl ?_ | refine pm_W.tl rfl rfl ?_))
  refine loop (l.length + 1) 0 A h (by omega) rfl (rt_S0 hs) ?_
  have hl2 : a < h.1.length := (List.getElem?_eq_some_iff.mp hA).1
  have e := (List.getElem?_eq_some_iff.mp hA).2
  rw [← e, List.set_getElem_self]
theorem ct_P_rootId (hb : pl_R h a ps) (hp : 0 < ps.length) (k : ∀ A : List Int32, Q (some (.int (rt_root 15 (ps.map (fun q => q.2))))) (h.1 ++ [.inl (false, A)], h.2 + 15)) : pm_X xs 2 mP_rootId [.ref a] h Q := by
  obtain ⟨es, is, h1, h2, h3, h4, h5, h6, h7, h8⟩ := hb
  have hlast : ∀ A : List Int32, (h.1 ++ [.inl (false, A)])[h.1.length]? = some (.inl (false, A)) := fun A => by simp
  have hset : ∀ A A' : List Int32, (h.1 ++ [(.inl (false, A) : pm_C)]).set h.1.length (.inl (false, A')) = h.1 ++ [.inl (false, A')] := fun A A' => by simp
  have loop : ∀ (f : Nat) (l A : List Int32), l.length ≤ f + 1 → 0 < l.length → A.length = 15 → l.length ≤ 15 → (∀ t, t < l.length → A.getD t 0 = l.getD t 0) → rt_root f l = rt_root 15 (ps.map (fun q => q.2)) → pm_W xs 2 mP_rootId 16 [.ref a, .ref h.1.length, .int (nI l.length)] [] (h.1 ++ [.inl (false, A)], h.2 + 15) Q := by
    intro f
    induction f with
    | zero =>
      intro l A hf h0 hA hl hs hr
      (repeat (first | refine pm_W.ts rfl rfl ?_ | refine pm_W.tl rfl rfl ?_))
      refine pm_W.icmp rfl (fun c => ?_) (fun c => ?_)
      · (repeat (first | refine pm_W.ts rfl rfl ?_ | refine pm_W.tl rfl rfl ?_))
        refine pm_W.iald (j := nI 0) rfl (hlast A) (pm_ix_ok (j := 0) (by omega) (by omega)) ?_
        refine pm_W.iret rfl rfl ?_
        rw [hs 0 h0, show l.getD 0 0 = rt_root 0 l from rfl, hr]
        exact k A
      · have c : ¬ nI l.length ≤ nI 1 := c
        rw [nI_leI (by omega) (by omega)] at c
        omega
    | succ f ih =>
      intro l A hf h0 hA hl hs hr
      (repeat (first | refine pm_W.ts rfl rfl ?_ | refine pm_W.tl rfl rfl ?_))
      refine pm_W.icmp rfl (fun c => ?_) (fun c => ?_)
      · have c : nI l.length ≤ nI 1 := c
        rw [nI_leI (by omega) (by omega)] at c
        (repeat (first | refine pm_W.ts rfl rfl ?_ | refine pm_W.tl rfl rfl ?_))
        refine pm_W.iald (j := nI 0) rfl (hlast A) (pm_ix_ok (j := 0) (by omega) (by omega)) ?_
        refine pm_W.iret rfl rfl ?_
        rw [hs 0 h0, show l.getD 0 0 = rt_root (f + 1) l from by rw [rt_root, if_neg (by omega)], hr]
        exact k A
      · have c : ¬ nI l.length ≤ nI 1 := c
        rw [nI_leI (by omega) (by omega)] at c
        (repeat (first | refine pm_W.ts rfl rfl ?_ | refine pm_W.tl rfl rfl ?_))
        refine pm_W.callS rfl rfl rfl rfl (fr_ble rfl) (fr_ble rfl) (ct_P_joinPairs (hlast A) (by omega) (by omega) hs (fun A' hA' hs' => ?_))
        have e3 : nI l.length + Int32.ofInt 1 = nI (l.length + 1) := fr_inc _
        have e4 : nI (l.length + 1) / Int32.ofInt 2 = nI (rt_up l).length := by
          rw [rt_up_len]
          exact fr_div (b := 2) (by omega) (by omega)
        (iterate 3 (first | refine pm_W.ts rfl rfl ?_ | refine pm_W.tl rfl rfl ?_))
        rw [e3]
        (iterate 1 (first | refine pm_W.ts rfl rfl ?_ | refine pm_W.tl rfl rfl ?_))
        refine pm_W.idiv rfl (by decide) ?_
        rw [e4]
        (iterate 1 (first | refine pm_W.ts rfl rfl ?_ | refine pm_W.tl rfl rfl ?_))
        refine pm_W.goto rfl ?_
        have hlen := rt_up_len (l := l)
        have := ih (rt_up l) A' (by omega) (by omega) (by omega) (by omega) (fun t ht => hs' t (by omega)) (by rw [← hr, show rt_root (f + 1) l = rt_root f (rt_up l) from by rw [rt_root, if_pos (by omega)]])
        rw [← hset A A'] at this
        exact this
  unfold pm_X
  (repeat (first | refine pm_W.ts rfl rfl ?_ | refine pm_W.tl rfl rfl ?_ | refine pm_W.get rfl rfl h1 rfl ?_))
  refine pm_W.clone rfl rfl rfl rfl h3 ?_
  refine pm_W.cast rfl rfl (hlast is) ?_
  have h1' : (h.1 ++ [.inl (false, is)])[a]? = some (.inr (.inr (kP, [Value.ref (a + 1), .ref (a + 2), .int (nI ps.length)]))) := by
    rw [List.getElem?_append_left (List.getElem?_eq_some_iff.mp h1).1]
    exact h1
  (iterate 4 (first | refine pm_W.ts rfl rfl ?_ | refine pm_W.tl rfl rfl ?_ | refine pm_W.get rfl rfl h1' rfl ?_))
  rw [h5]
  have := loop 15 (ps.map (fun q => q.2)) is (by simp; omega) (by simpa using hp) h5 (by simpa using h8) (fun t ht => by
    rw [List.length_map] at ht
    rw [pl_getI h7 ht]
    simp [pl_i, ht]) rfl
  rw [List.length_map] at this
  exact this
end ROOT
