theorem mr_up_id {α : Type} {g : Nat → α} {i : Nat} : fr_up g i (g i) = g := by
  funext j
  unfold fr_up
  split
  · rename_i c; rw [c]
  · rfl
theorem mr_up_up {α : Type} {g : Nat → α} {i : Nat} {x y : α} : fr_up (fr_up g i x) i y = fr_up g i y := by
  funext j
  unfold fr_up
  split <;> rfl
theorem kp_ap_lo {L : dp_K} {q : Int32 × List Int32} {j : Nat} (hj : j < L.length) : kp_i (L ++ [q]) j = kp_i L j ∧ kp_b (L ++ [q]) j = kp_b L j := by
  unfold kp_i kp_b
  rw [List.getD_eq_getElem?_getD, List.getElem?_append_left hj, List.getD_eq_getElem?_getD]
  exact ⟨rfl, rfl⟩
theorem kp_ap_hi {L : dp_K} {q : Int32 × List Int32} : kp_i (L ++ [q]) L.length = q.1 ∧ kp_b (L ++ [q]) L.length = q.2 := by
  unfold kp_i kp_b
  rw [List.getD_eq_getElem?_getD, List.getElem?_append_right (Nat.le_refl _), Nat.sub_self]
  exact ⟨rfl, rfl⟩
theorem kp_set_s {L : dp_K} {q : Int32 × List Int32} {j : Nat} (hj : j < L.length) : kp_i (L.set j q) j = q.1 ∧ kp_b (L.set j q) j = q.2 := by
  unfold kp_i kp_b
  rw [List.getD_eq_getElem?_getD, List.getElem?_set_self hj]
  exact ⟨rfl, rfl⟩
theorem kp_set_n {L : dp_K} {q : Int32 × List Int32} {i j : Nat} (hj : i ≠ j) : kp_i (L.set i q) j = kp_i L j ∧ kp_b (L.set i q) j = kp_b L j := by
  unfold kp_i kp_b
  rw [List.getD_eq_getElem?_getD, List.getElem?_set_ne hj, List.getD_eq_getElem?_getD]
  exact ⟨rfl, rfl⟩
section MENTER
variable {xs : List Int32} {h : pm_H} {o : Nat} {A : Nat → List Int32} {I : Nat → Int32} {L : dp_K} {Q : Option Value → pm_H → Prop}
theorem ct_M_enter {f : Nat} {w : Int32} {bs : List Int32} (hb : mr_R h o A I) (hm : mk A (40 * 1) L) (hI : I 6 = nI L.length) (hL : L.length ≤ 6) (h32 : bs.length ≤ 32) (hf : mb A f bs) (hfl : f + bs.length ≤ 1760)
    (k : ∀ (g : pm_H) (B : Nat → List Int32), mr_R g o B (fr_up I 6 (nI (kp_put 6 L w bs).length)) → mk B (40 * 1) (kp_put 6 L w bs) → mq_ag 1 A B → fr_ag o (o + 15) h g → Q none g) : pm_X xs 2 mM_enter [.ref o, .int w, .int (nI f), .int (nI bs.length)] h Q := by
  have h1 := hb.1
  have tail : ∀ (L' : dp_K) (g : pm_H) (B : Nat → List Int32) (x4 : Int32), kp_put 6 L w bs = L' ++ [(w, bs)] → L'.length ≤ 5 → mr_R g o B (fr_up I 6 (nI L'.length)) → mk B (40 * 1) L' → mq_ag 1 A B → fr_ag o (o + 15) h g → pm_W xs 2 mM_enter 28 [.ref o, .int w, .int (nI f), .int (nI bs.length), .int x4] [] g Q := by
    intro L' g B x4 hp h5 hB hm' hag hfr
    have t1 := hB.1
    have m13 : (B 13).length = 46 := hB.len (i := 13) rfl rfl
    have m14 : (B 14).length = 46 := hB.len (i := 14) rfl rfl
    (iterate 3 (first | refine pm_W.ts rfl rfl ?_ | refine pm_W.tl rfl rfl ?_ | refine pm_W.get rfl rfl t1 rfl ?_))
    rw [show fr_up I 6 (nI L'.length) 6 = nI L'.length from fr_up_s]
    (iterate 1 (first | refine pm_W.ts rfl rfl ?_ | refine pm_W.tl rfl rfl ?_))
    rw [show (Int8.ofInt 40).toInt32 + nI L'.length = nI (40 + L'.length) from nI_add 40 L'.length]
    (iterate 4 (first | refine pm_W.ts rfl rfl ?_ | refine pm_W.tl rfl rfl ?_ | refine pm_W.get rfl rfl t1 rfl ?_))
    rw [show fr_up I 6 (nI L'.length) 6 = nI L'.length from fr_up_s]
    (iterate 2 (first | refine pm_W.ts rfl rfl ?_ | refine pm_W.tl rfl rfl ?_))
    rw [fr_inc]
    refine mr_pt 6 hB rfl rfl rfl rfl (Or.inl rfl) (fun g2 r2 a2 => ?_)
    rw [mr_up_up] at r2
    have t2 := r2.1
    (repeat (first | refine pm_W.ts rfl rfl ?_ | refine pm_W.tl rfl rfl ?_))
    refine pm_W.callV (d' := 0) (as := [.int (nI (40 + L'.length)), .int w, .int (nI f), .int (nI bs.length)]) rfl rfl rfl rfl (fr_ble rfl) t2 (fr_ble rfl) (ct_M_keep r2 (by omega) h32 (by omega) (by omega) (fun g3 C hC c1 c2 c3 c4 c5 a3 => ?_))
    refine pm_W.ret rfl rfl (k g3 C ?_ (fun j hj => ?_) (hag.tr (mq_keep (q := 1) (by omega) (by omega) h32 c1 c2 c3 c4)) ((hfr.tr a2).tr a3))
    · rw [hp, List.length_append, List.length_singleton]; exact hC
    · rw [hp] at hj ⊢
      rw [List.length_append, List.length_singleton] at hj
      by_cases c : j = L'.length
      · subst c
        rw [kp_ap_hi.1, kp_ap_hi.2]
        refine ms_keep (by omega) (by omega) h32 (fun i hi => ?_) c1 c2 c5
        have hi : i < bs.length := hi
        rw [hag.2.2 (f + i) (by omega)]
        exact hf i hi
      · rw [(kp_ap_lo (by omega)).1, (kp_ap_lo (by omega)).2]
        exact ms_other (by omega) h32 c1 c2 c4 (hm' j (by omega))
  unfold pm_X
  (repeat (first | refine pm_W.ts rfl rfl ?_ | refine pm_W.tl rfl rfl ?_))
  refine pm_W.callV (d' := 0) (as := [.int (nI 1), .int w]) rfl rfl rfl rfl (fr_ble rfl) h1 (fr_ble rfl) (ct_M_find (q := 1) hb hm (Or.inr ⟨rfl, hI, hL⟩) (fun j he hj => ?_) (fun he => ?_))
  · have hp : kp_put 6 L w bs = L.set j (w, bs) := by unfold kp_put; rw [he]
    have m13 : (A 13).length = 46 := hb.len (i := 13) rfl rfl
    have m14 : (A 14).length = 46 := hb.len (i := 14) rfl rfl
    (repeat (first | refine pm_W.ts rfl rfl ?_ | refine pm_W.tl rfl rfl ?_))
    refine pm_W.ifz rfl (fun _ => ?_) (fun z => absurd (nI_pos' (by omega)) z)
    (repeat (first | refine pm_W.ts rfl rfl ?_ | refine pm_W.tl rfl rfl ?_))
    refine pm_W.callV (d' := 0) (as := [.int (nI (40 * 1 + j)), .int w, .int (nI f), .int (nI bs.length)]) rfl rfl rfl rfl (fr_ble rfl) h1 (fr_ble rfl) (ct_M_keep hb (by omega) h32 (by omega) (by omega) (fun g3 C hC c1 c2 c3 c4 c5 a3 => ?_))
    refine pm_W.ret rfl rfl (k g3 C ?_ (fun i hi => ?_) (mq_keep (q := 1) (by omega) (by omega) h32 c1 c2 c3 c4) a3)
    · rw [hp, List.length_set, ← hI, mr_up_id]; exact hC
    · rw [hp] at hi ⊢
      rw [List.length_set] at hi
      by_cases c : i = j
      · subst c
        rw [(kp_set_s hj).1, (kp_set_s hj).2]
        exact ms_keep (by omega) (by omega) h32 hf c1 c2 c5
      · rw [(kp_set_n (fun z => c z.symm)).1, (kp_set_n (fun z => c z.symm)).2]
        exact ms_other (by omega) h32 c1 c2 c4 (hm i hi)
  · have hp : kp_put 6 L w bs = kp_room 6 L ++ [(w, bs)] := by unfold kp_put; rw [he]
    (repeat (first | refine pm_W.ts rfl rfl ?_ | refine pm_W.tl rfl rfl ?_))
    refine pm_W.ifz rfl (fun z => absurd (show (0 : Int32) ≤ -1 from z) (by decide)) (fun _ => ?_)
    (iterate 2 (first | refine pm_W.ts rfl rfl ?_ | refine pm_W.tl rfl rfl ?_ | refine pm_W.get rfl rfl h1 rfl ?_))
    rw [hI]
    (iterate 1 (first | refine pm_W.ts rfl rfl ?_ | refine pm_W.tl rfl rfl ?_))
    refine pm_W.icmp rfl (fun c => ?_) (fun c => ?_)
    · have c : ¬ nI L.length = nI 6 := c
      rw [nI_eq (by omega) (by omega)] at c
      have hr : kp_room 6 L = L := if_neg c
      rw [hr] at hp
      refine tail L h A _ hp (by omega) ?_ hm mq_ag.rf fr_ag.rf
      rw [← hI, mr_up_id]
      exact hb
    · have c : ¬ ¬ nI L.length = nI 6 := c
      rw [nI_eq (by omega) (by omega)] at c
      have c := Decidable.not_not.mp c
      have hr : kp_room 6 L = L.eraseIdx 0 := if_pos c
      rw [hr] at hp
      have hl5 : (L.eraseIdx 0).length = L.length - 1 := List.length_eraseIdx_of_lt (by omega)
      (repeat (first | refine pm_W.ts rfl rfl ?_ | refine pm_W.tl rfl rfl ?_))
      refine pm_W.callV (d' := 1) (as := [.int (nI (40 * 1 + 0))]) rfl rfl rfl rfl (fr_ble rfl) h1 (fr_ble rfl) (ct_M_drop (q := 1) (p := 0) hb hm (Or.inr ⟨rfl, hI, hL⟩) (by omega) (fun g2 C hC c1 c2 a2 => ?_))
      refine tail (L.eraseIdx 0) g2 C _ hp (by omega) ?_ c1 c2 a2
      rw [hl5]
      exact hC
end MENTER
