def ms (A : Nat → List Int32) (s : Nat) (w : Int32) (bs : List Int32) : Prop := (A 13).getD s 0 = w ∧ (A 14).getD s 0 = nI bs.length ∧ bs.length ≤ 32 ∧ mb A (480 + 32 * s) bs
def mq_ag (q : Nat) (A B : Nat → List Int32) : Prop := (∀ i, i ≠ 1 → i ≠ 13 → i ≠ 14 → B i = A i) ∧ (∀ i j, i = 13 ∨ i = 14 → j < 40 * q ∨ 40 * q + 40 ≤ j → (B i).getD j 0 = (A i).getD j 0) ∧ ∀ j, j < 480 + 32 * (40 * q) ∨ 480 + 32 * (40 * q) + 1280 ≤ j → (B 1).getD j 0 = (A 1).getD j 0
theorem mq_ag.rf {q : Nat} {A : Nat → List Int32} : mq_ag q A A := ⟨fun _ _ _ _ => rfl, fun _ _ _ _ => rfl, fun _ _ => rfl⟩
theorem mq_ag.tr {q : Nat} {A B C : Nat → List Int32} (x : mq_ag q A B) (y : mq_ag q B C) : mq_ag q A C := ⟨fun i h1 h2 h3 => (y.1 i h1 h2 h3).trans (x.1 i h1 h2 h3), fun i j h1 h2 => (y.2.1 i j h1 h2).trans (x.2.1 i j h1 h2), fun j hj => (y.2.2 j hj).trans (x.2.2 j hj)⟩
theorem kp_er {L : dp_K} {p j : Nat} : (L.eraseIdx p).getD j (0, []) = if j < p then L.getD j (0, []) else L.getD (j + 1) (0, []) := by
  rw [List.getD_eq_getElem?_getD, List.getElem?_eraseIdx, List.getD_eq_getElem?_getD, List.getD_eq_getElem?_getD]
  split <;> rfl
section MDROP
variable {xs : List Int32} {h : pm_H} {o : Nat} {A B : Nat → List Int32} {I : Nat → Int32} {L : dp_K} {Q : Option Value → pm_H → Prop}
theorem ms_keep {s f : Nat} {w : Int32} {bs : List Int32} (l13 : s < (A 13).length) (l14 : s < (A 14).length) (h32 : bs.length ≤ 32) (hf : mb A f bs) (b1 : B 13 = (A 13).set s w) (b2 : B 14 = (A 14).set s (nI bs.length)) (b5 : ∀ i, i < bs.length → (B 1).getD (480 + 32 * s + i) 0 = (A 1).getD (f + i) 0) : ms B s w bs := by
  refine ⟨by rw [b1, fr_gs l13], by rw [b2, fr_gs l14], h32, fun i hi => ?_⟩
  rw [b5 i hi]
  exact hf i hi
theorem ms_other {s t n : Nat} {w w' : Int32} {bs : List Int32} (ht : t ≠ s) (hn : n ≤ 32) (b1 : B 13 = (A 13).set s w) (b2 : B 14 = (A 14).set s (nI n)) (b4 : ∀ j, j < 480 + 32 * s ∨ 480 + 32 * s + n ≤ j → (B 1).getD j 0 = (A 1).getD j 0) (hm : ms A t w' bs) : ms B t w' bs := by
  obtain ⟨m1, m2, m3, m4⟩ := hm
  refine ⟨by rw [b1, fr_gn (fun z => ht z.symm)]; exact m1, by rw [b2, fr_gn (fun z => ht z.symm)]; exact m2, m3, fun i hi => ?_⟩
  rw [b4 (480 + 32 * t + i) (by omega)]
  exact m4 i hi
theorem mq_keep {q s n : Nat} {w : Int32} (hs : 40 * q ≤ s) (hs2 : s < 40 * q + 40) (hn : n ≤ 32) (b1 : B 13 = (A 13).set s w) (b2 : B 14 = (A 14).set s (nI n)) (b3 : ∀ i, i ≠ 1 → i ≠ 13 → i ≠ 14 → B i = A i) (b4 : ∀ j, j < 480 + 32 * s ∨ 480 + 32 * s + n ≤ j → (B 1).getD j 0 = (A 1).getD j 0) : mq_ag q A B := by
  refine ⟨b3, fun i j hi hj => ?_, fun j hj => b4 j (by omega)⟩
  rcases hi with rfl | rfl
  · rw [b1, fr_gn (by omega)]
  · rw [b2, fr_gn (by omega)]
theorem ct_M_drop {q p : Nat} (hb : mr_R h o A I) (hm : mk A (40 * q) L) (hq : (q = 0 ∧ I 5 = nI L.length ∧ L.length ≤ 40) ∨ (q = 1 ∧ I 6 = nI L.length ∧ L.length ≤ 6)) (hp : p < L.length)
    (k : ∀ (g : pm_H) (B : Nat → List Int32), mr_R g o B (fr_up I (5 + q) (nI (L.length - 1))) → mk B (40 * q) (L.eraseIdx p) → mq_ag q A B → fr_ag o (o + 15) h g → Q none g) : pm_X xs 1 mM_drop [.ref o, .int (nI (40 * q + p))] h Q := by
  have hql : 40 * q + L.length ≤ 46 ∧ q ≤ 1 ∧ L.length ≤ 40 := by omega
  have h1 := hb.1
  have loop : ∀ (r j : Nat) (g : pm_H) (B : Nat → List Int32), j + 1 + r = L.length → p ≤ j → mr_R g o B I → (∀ t, t < j → ms B (40 * q + t) (kp_i (L.eraseIdx p) t) (kp_b (L.eraseIdx p) t)) → (∀ t, j ≤ t → t < L.length → ms B (40 * q + t) (kp_i L t) (kp_b L t)) → mq_ag q A B → fr_ag o (o + 15) h g → pm_W xs 1 mM_drop 23 [.ref o, .int (nI (40 * q + p)), .int (nI (40 * q + L.length)), .int (nI (40 * q + j))] [] g Q := by
    intro r
    induction r with
    | zero =>
      intro j g B hj hpj hB b1 b2 b3 hag
      have t1 := hB.1
      have fin : ∀ g2, mr_R g2 o B (fr_up I (5 + q) (nI (L.length - 1))) → fr_ag o (o + 15) g g2 → Q none g2 := by
        intro g2 r2 a2
        refine k g2 B r2 (fun t ht => ?_) b3 (hag.tr a2)
        rw [List.length_eraseIdx_of_lt hp] at ht
        exact b1 t (by omega)
      (iterate 3 (first | refine pm_W.ts rfl rfl ?_ | refine pm_W.tl rfl rfl ?_))
      rw [fr_inc]
      (iterate 1 (first | refine pm_W.ts rfl rfl ?_ | refine pm_W.tl rfl rfl ?_))
      refine pm_W.icmp rfl (fun _ => ?_) (fun c => ?_)
      · (repeat (first | refine pm_W.ts rfl rfl ?_ | refine pm_W.tl rfl rfl ?_))
        rcases hq with ⟨rfl, e, e2⟩ | ⟨rfl, e, e2⟩
        · refine pm_W.icmp rfl (fun c => ?_) (fun c => ?_)
          · have c : nI 40 ≤ nI (40 * 0 + p) := c
            rw [nI_leI (by omega) (by omega)] at c
            omega
          · (repeat (first | refine pm_W.ts rfl rfl ?_ | refine pm_W.tl rfl rfl ?_ | refine pm_W.get rfl rfl t1 rfl ?_))
            have e3 : I 5 - Int32.ofInt 1 = nI (L.length - 1) := by rw [e]; exact fr_sub (j := 1) (by omega)
            rw [e3]
            refine mr_pt 5 hB rfl rfl rfl rfl (Or.inl rfl) (fun g2 r2 a2 => ?_)
            refine pm_W.goto rfl ?_
            exact pm_W.ret rfl rfl (fin g2 r2 a2)
        · refine pm_W.icmp rfl (fun c => ?_) (fun c => ?_)
          · (repeat (first | refine pm_W.ts rfl rfl ?_ | refine pm_W.tl rfl rfl ?_ | refine pm_W.get rfl rfl t1 rfl ?_))
            have e3 : I 6 - Int32.ofInt 1 = nI (L.length - 1) := by rw [e]; exact fr_sub (j := 1) (by omega)
            rw [e3]
            refine mr_pt 6 hB rfl rfl rfl rfl (Or.inl rfl) (fun g2 r2 a2 => ?_)
            exact pm_W.ret rfl rfl (fin g2 r2 a2)
          · have c : ¬ nI 40 ≤ nI (40 * 1 + p) := c
            rw [nI_leI (by omega) (by omega)] at c
            omega
      · have c : ¬ nI (40 * q + L.length) ≤ nI (40 * q + j + 1) := c
        rw [nI_leI (by omega) (by omega)] at c
        omega
    | succ r ih =>
      intro j g B hj hpj hB b1 b2 b3 hag
      have t1 := hB.1
      have m13 : (B 13).length = 46 := hB.len (i := 13) rfl rfl
      have m14 : (B 14).length = 46 := hB.len (i := 14) rfl rfl
      obtain ⟨n1, n2, n3, n4⟩ := b2 (j + 1) (by omega) (by omega)
      rw [← Nat.add_assoc] at n1 n2 n4
      have er : ∀ t, p ≤ t → kp_i (L.eraseIdx p) t = kp_i L (t + 1) ∧ kp_b (L.eraseIdx p) t = kp_b L (t + 1) := by
        intro t ht
        unfold kp_i kp_b
        rw [kp_er, if_neg (by omega)]
        exact ⟨rfl, rfl⟩
      (iterate 3 (first | refine pm_W.ts rfl rfl ?_ | refine pm_W.tl rfl rfl ?_))
      rw [fr_inc]
      (iterate 1 (first | refine pm_W.ts rfl rfl ?_ | refine pm_W.tl rfl rfl ?_))
      refine pm_W.icmp rfl (fun c => ?_) (fun _ => ?_)
      · have c : nI (40 * q + L.length) ≤ nI (40 * q + j + 1) := c
        rw [nI_leI (by omega) (by omega)] at c
        omega
      · (repeat (first | refine pm_W.ts rfl rfl ?_ | refine pm_W.tl rfl rfl ?_ | refine pm_W.get rfl rfl t1 rfl ?_))
        rw [fr_inc]
        refine mr_ld (i := 13) hB rfl rfl rfl rfl (show 40 * q + j + 1 < 46 by omega) ?_
        rw [n1]
        (repeat (first | refine pm_W.ts rfl rfl ?_ | refine pm_W.tl rfl rfl ?_ | refine pm_W.get rfl rfl t1 rfl ?_))
        rw [fr_inc]
        refine mr_ld (i := 14) hB rfl rfl rfl rfl (show 40 * q + j + 1 < 46 by omega) ?_
        rw [n2]
        have e : nI 480 + nI 32 * nI (40 * q + j + 1) = nI (480 + 32 * (40 * q + j + 1)) := by rw [fr_mul, nI_add]
        show pm_W xs 1 mM_drop _ _ [.int (nI (kp_b L (j + 1)).length), .int (nI 480 + nI 32 * nI (40 * q + j + 1)), .int (kp_i L (j + 1)), .int (nI (40 * q + j)), .ref o] g Q
        rw [e]
        refine pm_W.callV (d' := 0) (as := [.int (nI (40 * q + j)), .int (kp_i L (j + 1)), .int (nI (480 + 32 * (40 * q + j + 1))), .int (nI (kp_b L (j + 1)).length)]) rfl rfl rfl rfl (fr_ble rfl) t1 (fr_ble rfl) (ct_M_keep hB (by omega) n3 (by omega) (by omega) (fun g2 C hC c1 c2 c3 c4 c5 a2 => ?_))
        (repeat (first | refine pm_W.ts rfl rfl ?_ | refine pm_W.tl rfl rfl ?_))
        refine pm_W.goto rfl ?_
        rw [fr_inc]
        refine ih (j + 1) g2 C (by omega) (by omega) hC (fun t ht => ?_) (fun t h1 h2 => ?_) (b3.tr (mq_keep (q := q) (by omega) (by omega) n3 c1 c2 c3 c4)) (hag.tr a2)
        · by_cases c : t = j
          · subst c
            rw [(er t hpj).1, (er t hpj).2]
            exact ms_keep (by omega) (by omega) n3 n4 c1 c2 c5
          · exact ms_other (by omega) n3 c1 c2 c4 (b1 t (by omega))
        · exact ms_other (by omega) n3 c1 c2 c4 (b2 t (by omega) h2)
  have start : pm_W xs 1 mM_drop 20 (pm_entry [.ref o, .int (nI (40 * q + p))] (pm_maxL mM_drop)) [.int (nI (40 * q + L.length))] h Q := by
    (iterate 3 (first | refine pm_W.ts rfl rfl ?_ | refine pm_W.tl rfl rfl ?_))
    refine loop (L.length - (p + 1)) p h A (by omega) (Nat.le_refl _) hb (fun t ht => ?_) (fun t _ ht => hm t ht) mq_ag.rf fr_ag.rf
    have : kp_i (L.eraseIdx p) t = kp_i L t ∧ kp_b (L.eraseIdx p) t = kp_b L t := by
      unfold kp_i kp_b
      rw [kp_er, if_pos ht]
      exact ⟨rfl, rfl⟩
    rw [this.1, this.2]
    exact hm t (by omega)
  unfold pm_X
  (repeat (first | refine pm_W.ts rfl rfl ?_ | refine pm_W.tl rfl rfl ?_))
  rcases id hq with ⟨rfl, e, e2⟩ | ⟨rfl, e, e2⟩
  · refine pm_W.icmp rfl (fun c => ?_) (fun c => ?_)
    · have c : nI 40 ≤ nI (40 * 0 + p) := c
      rw [nI_leI (by omega) (by omega)] at c
      omega
    · (repeat (first | refine pm_W.ts rfl rfl ?_ | refine pm_W.tl rfl rfl ?_ | refine pm_W.get rfl rfl h1 rfl ?_))
      refine pm_W.goto rfl ?_
      rw [e]
      have := start
      rw [show 40 * 0 + L.length = L.length by omega] at this
      exact this
  · refine pm_W.icmp rfl (fun c => ?_) (fun c => ?_)
    · (iterate 3 (first | refine pm_W.ts rfl rfl ?_ | refine pm_W.tl rfl rfl ?_ | refine pm_W.get rfl rfl h1 rfl ?_))
      rw [e]
      (iterate 1 (first | refine pm_W.ts rfl rfl ?_ | refine pm_W.tl rfl rfl ?_))
      rw [show (Int8.ofInt 40).toInt32 + nI L.length = nI (40 * 1 + L.length) from nI_add 40 L.length]
      exact start
    · have c : ¬ nI 40 ≤ nI (40 * 1 + p) := c
      rw [nI_leI (by omega) (by omega)] at c
      omega
end MDROP
