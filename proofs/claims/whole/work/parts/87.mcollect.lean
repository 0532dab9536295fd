section MCOLLECT
variable {xs : List Int32} {h : pm_H} {o : Nat} {A B : Nat → List Int32} {I : Nat → Int32} {im : Nat → dp_P} {st : dp_K} {Q : Option Value → pm_H → Prop}
theorem mi_rows (hm : mi A im) (e7 : B 7 = A 7) (e8 : B 8 = A 8) (e9 : B 9 = A 9) (e10 : B 10 = A 10) (e11 : B 11 = A 11) : mi B im := by
  intro i hi
  have := hm i hi
  unfold ml mlp at this ⊢
  rw [e7, e8, e9, e10, e11]
  exact this
theorem mi_mq {q : Nat} (hm : mi A im) (hq : mq_ag q A B) : mi B im := mi_rows hm (hq.1 7 (by omega) (by omega) (by omega)) (hq.1 8 (by omega) (by omega) (by omega)) (hq.1 9 (by omega) (by omega) (by omega)) (hq.1 10 (by omega) (by omega) (by omega)) (hq.1 11 (by omega) (by omega) (by omega))
theorem ct_M_collect (hb : mr_R h o A I) (hm : mi A im) (hk : mk A (40 * 0) st) (hI : I 5 = nI st.length) (hl : st.length ≤ 40)
    (k : ∀ (g : pm_H) (B : Nat → List Int32), mr_R g o B (fr_up I 5 (nI (cl_go im st.length st 0).1.length)) → mk B (40 * 0) (cl_go im st.length st 0).1 → mq_ag 0 A B → fr_ag o (o + 15) h g → Q (some (.int (nI (cl_go im st.length st 0).2))) g) : pm_X xs 2 mM_collect [.ref o] h Q := by
  have h1 := hb.1
  have loop : ∀ (n : Nat) (L : dp_K) (c : Nat) (g : pm_H) (B : Nat → List Int32), n ≤ L.length → L.length ≤ 40 → mr_R g o B (fr_up I 5 (nI L.length)) → mk B (40 * 0) L → mq_ag 0 A B → fr_ag o (o + 15) h g → cl_go im n L c = cl_go im st.length st 0 → pm_W xs 2 mM_collect 9 [.ref o, .int (nI c), .int (nI n - Int32.ofInt 1)] [] g Q := by
    intro n
    induction n with
    | zero =>
      intro L c g B hn hL hB hkL hq hag he
      (repeat (first | refine pm_W.ts rfl rfl ?_ | refine pm_W.tl rfl rfl ?_))
      refine pm_W.ifz rfl (fun _ => ?_) (fun z => absurd (show nI 0 - Int32.ofInt 1 < 0 by decide) z)
      (repeat (first | refine pm_W.ts rfl rfl ?_ | refine pm_W.tl rfl rfl ?_))
      refine pm_W.iret rfl rfl ?_
      have := k g B (by rw [← he]; exact hB) (by rw [← he]; exact hkL) hq hag
      rw [← he] at this
      exact this
    | succ n ih =>
      intro L c g B hn hL hB hkL hq hag he
      have t1 := hB.1
      have e1 : nI (n + 1) - Int32.ofInt 1 = nI n := nI_pred n
      rw [e1]
      rw [show cl_go im (n + 1) L c = if dp_inb im (kp_i L n) = true then cl_go im n L c else cl_go im n (L.eraseIdx n) (c + 1) from rfl] at he
      have ei := (hkL n (by omega)).1
      rw [show 40 * 0 + n = n by omega] at ei
      (repeat (first | refine pm_W.ts rfl rfl ?_ | refine pm_W.tl rfl rfl ?_))
      refine pm_W.ifz rfl (fun z => absurd z (nI_pos (by omega))) (fun _ => ?_)
      (repeat (first | refine pm_W.ts rfl rfl ?_ | refine pm_W.tl rfl rfl ?_ | refine pm_W.get rfl rfl t1 rfl ?_))
      refine mr_ld (i := 13) hB rfl rfl rfl rfl (show n < 46 by omega) ?_
      rw [ei]
      refine pm_W.callV (d' := 0) (as := [.int (kp_i L n)]) rfl rfl rfl rfl (fr_ble rfl) t1 (fr_ble rfl) (ct_M_inImages hB (mi_mq hm hq) (fun hy => ?_) (fun hno => ?_))
      · rw [if_pos (dp_inb_iff.mpr hy)] at he
        refine pm_W.ifz rfl (fun _ => ?_) (fun z => absurd (show ¬ (1 : Int32) = 0 by decide) z)
        (iterate 1 (first | refine pm_W.ts rfl rfl ?_ | refine pm_W.tl rfl rfl ?_))
        refine pm_W.goto rfl ?_
        rw [fr_dec]
        exact ih L c g B (by omega) hL hB hkL hq hag he
      · rw [if_neg (fun q => hno (dp_inb_iff.mp q))] at he
        refine pm_W.ifz rfl (fun z => absurd rfl z) (fun _ => ?_)
        (repeat (first | refine pm_W.ts rfl rfl ?_ | refine pm_W.tl rfl rfl ?_))
        have el : (L.eraseIdx n).length = L.length - 1 := List.length_eraseIdx_of_lt (by omega)
        have dr := ct_M_drop (xs := xs) (q := 0) (p := n) (Q := fun v h1 => pm_W xs 2 mM_collect 31 [.ref o, .int (nI c), .int (nI n)] (v.toList ++ []) h1 Q) hB hkL (Or.inl ⟨rfl, fr_up_s, hL⟩) (by omega) (fun g2 C hC c1 c2 a2 => ?_)
        · rw [show 40 * 0 + n = n by omega] at dr
          exact pm_W.callV (d' := 1) (as := [.int (nI n)]) rfl rfl rfl rfl (fr_ble rfl) t1 (fr_ble rfl) dr
        · (iterate 2 (first | refine pm_W.ts rfl rfl ?_ | refine pm_W.tl rfl rfl ?_))
          refine pm_W.goto rfl ?_
          rw [fr_dec, fr_inc]
          refine ih (L.eraseIdx n) (c + 1) g2 C (by omega) (by omega) ?_ c1 (hq.tr c2) (hag.tr a2) he
          rw [el]
          have := hC
          rw [show 5 + 0 = 5 from rfl, mr_up_up] at this
          exact this
  unfold pm_X
  (iterate 4 (first | refine pm_W.ts rfl rfl ?_ | refine pm_W.tl rfl rfl ?_ | refine pm_W.get rfl rfl h1 rfl ?_))
  rw [hI]
  (iterate 3 (first | refine pm_W.ts rfl rfl ?_ | refine pm_W.tl rfl rfl ?_))
  refine loop st.length st 0 h A (Nat.le_refl _) hl ?_ hk mq_ag.rf fr_ag.rf rfl
  rw [← hI, mr_up_id]
  exact hb
end MCOLLECT
