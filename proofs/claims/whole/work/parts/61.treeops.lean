def cr_ok (T : te_T) (p : Nat) (y : Int32) (v e : Nat) : Prop := pa_ok p = true ∧ p ≠ 0 ∧ (v = 1 ∨ v = 2) ∧ y = nI v ∧ (∀ e', e' < 10 → tP T e' ≠ p) ∧ te_dir T (pa_up p) ∧ e < 10 ∧ tP T e = 0 ∧ ∀ j, j < e → tP T j ≠ 0
def fl_ok (T : te_T) (p e : Nat) : Prop := pa_ok p = true ∧ p ≠ 0 ∧ e < 10 ∧ tP T e = p ∧ tK T e = 1
def ap_bs (v : Int32) (n : Nat) : List Int32 := (List.range n).map fun i => (v + nI (37 * i)) &&& 255
theorem tP_up {T : te_T} {e j : Nat} {q : Nat × Nat × List Int32} : tP (fr_up T e q) j = if j = e then q.1 else tP T j := by
  unfold tP fr_up
  split <;> rfl
theorem tK_up {T : te_T} {e j : Nat} {q : Nat × Nat × List Int32} : tK (fr_up T e q) j = if j = e then q.2.1 else tK T j := by
  unfold tK fr_up
  split <;> rfl
theorem tB_up {T : te_T} {e j : Nat} {q : Nat × Nat × List Int32} : tB (fr_up T e q) j = if j = e then q.2.2 else tB T j := by
  unfold tB fr_up
  split <;> rfl
theorem te_at_up {T : te_T} {e q p : Nat} {x : Nat × Nat × List Int32} (h0 : tP T e = 0 ∨ tP T e = x.1) (h : te_at T q p) : te_at (fr_up T e x) q p := by
  rcases h with h | ⟨e', he', rfl, hp, ep⟩
  · exact Or.inl h
  · refine Or.inr ⟨e', he', rfl, hp, ?_⟩
    rw [tP_up]
    by_cases c : e' = e
    · subst c
      rw [if_pos rfl]
      rcases h0 with h0 | h0
      · exact absurd (ep.symm.trans h0) hp
      · rw [← h0]; exact ep
    · rw [if_neg c]; exact ep
section TREEOPS
variable {xs : List Int32} {h : pm_H} {b : Nat} {z : cz_N} {im : Nat → dp_P} {st ca : dp_K} {sd : Nat → List Int32 × dp_P} {ws ta : List Nat} {f : Bool} {S : tr_S} {T : te_T} {Q : Option Value → pm_H → Prop}
theorem tt_create {p v e d : Nat} (hok : tr_ok S) (htt : tt S T) (he : e < 10) (h0 : tP T e = 0) (hp0 : p ≠ 0) (hv : v = 1 ∨ v = 2) (hd : te_at T d (pa_up p)) : tt (tr_add S (e + 1) d (pa_last p) v) (fr_up T e (p, v, [])) := by
  refine ⟨tr_rt_add htt.1 (by omega), fun j hj => ?_⟩
  obtain ⟨g1, g2⟩ := htt.2 j hj
  rw [tr_add_K hok (by omega), tr_add_N hok (by omega), tr_add_P hok (by omega), tP_up, tK_up, tB_up]
  have hB : tr_B (tr_add S (e + 1) d (pa_last p) v) (j + 1) = if j + 1 = e + 1 then [] else tr_B S (j + 1) := rfl
  rw [hB]
  by_cases c : j = e
  · subst c
    rw [if_pos rfl, if_pos rfl, if_pos rfl, if_pos rfl, if_pos rfl, if_pos rfl, if_pos rfl]
    refine ⟨⟨fun q => absurd q hp0, fun q => by rcases hv with z | z <;> omega⟩, fun _ => ⟨rfl, rfl, rfl, d, rfl, te_at_up (Or.inl h0) hd⟩⟩
  · rw [if_neg c, if_neg c, if_neg c, if_neg (by omega), if_neg (by omega), if_neg (by omega), if_neg (by omega)]
    refine ⟨g1, fun q => ?_⟩
    obtain ⟨a1, a2, a3, w, a4, a5⟩ := g2 q
    exact ⟨a1, a2, a3, w, a4, te_at_up (Or.inl h0) a5⟩
theorem ct_D_create {p : Nat} {y : Int32} (hb : dp_R h b z im st ca sd ws ta f S) (hV : tV T) (htt : tt S T) (hp : p < 2 ^ 32)
    (k1 : ∀ v e, cr_ok T p y v e → ∀ (h' : pm_H) (S' : tr_S), dp_R h' b z im st ca sd ws ta f S' → tt S' (fr_up T e (p, v, [])) → fr_ag b (b + 185) h h' → Q (some (.int 1)) h')
    (k0 : (∀ v e, ¬ cr_ok T p y v e) → Q (some (.int 0)) h) : pm_X xs 4 mD_create [.ref b, .int (nI p), .int y] h Q := by
  have ht := dp_t_c b f
  obtain ⟨c1, c2, c3, c4, c5, c6, c7, c8, c9, c10, c11, c12, c13, c14⟩ := id hb
  have hok : tr_ok S := c13.2.2.2.2.2.2
  have no : ∀ (v3 v4 : Value), (∀ v e, ¬ cr_ok T p y v e) → pm_W xs 4 mD_create 21 [.ref b, .int (nI p), .int y, v3, v4] [] h Q := by
    intro v3 v4 hq
    (repeat (first | refine pm_W.ts rfl rfl ?_ | refine pm_W.tl rfl rfl ?_))
    exact pm_W.iret rfl rfl (k0 hq)
  unfold pm_X
  (repeat (first | refine pm_W.ts rfl rfl ?_ | refine pm_W.tl rfl rfl ?_))
  refine pm_W.callS (d' := 2) rfl rfl rfl rfl (fr_ble rfl) (fr_ble rfl) (ct_T_isPath hp ?_)
  refine pm_W.ifz rfl (fun c => no _ _ (fun v e q => by have q1 := q.1; rw [fr_b0 c] at q1; cases q1)) (fun c => ?_)
  have hpo := fr_b1 c
  have hp30 := pa_ok_30 hpo
  (repeat (first | refine pm_W.ts rfl rfl ?_ | refine pm_W.tl rfl rfl ?_))
  refine pm_W.ifz rfl (fun c2 => ?_) (fun c2 => ?_)
  · have c2 : nI p = nI 0 := c2
    rw [nI_eq (by omega) (by omega)] at c2
    exact no _ _ (fun v e q => q.2.1 c2)
  · have c2 : ¬ nI p = nI 0 := c2
    rw [nI_eq (by omega) (by omega)] at c2
    obtain ⟨s1, s2, s3, s4, s5⟩ := pa_split hpo c2
    have hup30 := pa_ok_30 s3
    have go : ∀ v : Nat, (v = 1 ∨ v = 2) → y = nI v → pm_W xs 4 mD_create 23 [.ref b, .int (nI p), .int y, pm_none, pm_none] [] h Q := by
      intro v hv hy
      subst hy
      have no2 : ∀ (v3 v4 : Value), (∀ v' e, ¬ cr_ok T p (nI v) v' e) → pm_W xs 4 mD_create 66 [.ref b, .int (nI p), .int (nI v), v3, v4] [] h Q := by
        intro v3 v4 hq
        (repeat (first | refine pm_W.ts rfl rfl ?_ | refine pm_W.tl rfl rfl ?_))
        exact pm_W.iret rfl rfl (k0 hq)
      (repeat (first | refine pm_W.ts rfl rfl ?_ | refine pm_W.tl rfl rfl ?_ | refine pm_W.get rfl rfl c1 rfl ?_))
      refine pm_W.callS (d' := 2) rfl rfl rfl rfl (fr_ble rfl) (fr_ble rfl) (ct_T_pathOfParent hp ?_)
      refine pm_W.callV rfl rfl rfl rfl (fr_ble rfl) c13.1 (fr_ble rfl) (ct_T_find c13 (p := pa_up p) (by omega) (fun hn => by rw [s3] at hn; cases hn) (fun _ o ho => ?_))
      obtain ⟨f1, f2⟩ := tt_find hV htt s3 ho
      (repeat (first | refine pm_W.ts rfl rfl ?_ | refine pm_W.tl rfl rfl ?_))
      refine pm_W.callS (d' := 2) rfl rfl rfl rfl (fr_ble rfl) (fr_ble rfl) (ct_T_lastNameOf hp ?_)
      (repeat (first | refine pm_W.ts rfl rfl ?_ | refine pm_W.tl rfl rfl ?_ | refine pm_W.get rfl rfl c1 rfl ?_))
      cases o with
      | none =>
        refine pm_W.callV (d' := 1) rfl rfl rfl rfl (fr_ble rfl) c13.1 (fr_ble rfl) (ct_T_isDirectoryN c13 ?_)
        refine pm_W.ifz rfl (fun c3 => no2 _ _ (fun v' e q => ?_)) (fun c3 => absurd rfl c3)
        rcases q.2.2.2.2.2.1 with w | ⟨e', he', ep, -⟩
        · exact f2 rfl 0 (Or.inl ⟨rfl, w⟩)
        · by_cases w : pa_up p = 0
          · exact f2 rfl 0 (Or.inl ⟨rfl, w⟩)
          · exact f2 rfl (e' + 1) (Or.inr ⟨e', he', rfl, w, ep⟩)
      | some d =>
        have hd := f1 d rfl
        have hd10 := te_at_le hd
        have hdir : tr_K S d = 2 ↔ te_dir T (pa_up p) := by
          rcases hd with ⟨rfl, w⟩ | ⟨e', he', rfl, w, ep⟩
          · exact ⟨fun _ => Or.inl w, fun _ => htt.1.1⟩
          · have hK := ((htt.2 e' he').2 (by rw [ep]; exact w)).1
            constructor
            · intro q; exact Or.inr ⟨e', he', ep, hK.symm.trans q⟩
            · rintro (q | ⟨e2, he2, ep2, hk2⟩)
              · exact absurd q w
              · have : e' = e2 := hV.2.1 e' e2 he' he2 (by rw [ep]; exact w) (ep.trans ep2.symm)
                subst this
                exact hK.trans hk2
        refine pm_W.callV (d' := 1) rfl rfl rfl rfl (fr_ble rfl) c13.1 (fr_ble rfl) (ct_T_isDirectory c13 (s := d) (by omega) ?_)
        refine pm_W.ifz rfl (fun c3 => no2 _ _ (fun v' e q => ?_)) (fun c3 => ?_)
        · exact of_decide_eq_false (fr_b0 c3) (hdir.mpr q.2.2.2.2.2.1)
        · have hdT := hdir.mp (of_decide_eq_true (fr_b1 c3))
          have key : ∀ e', e' < 10 → ((tr_c S d (e' + 1) = true ∧ tr_N S (e' + 1) = pa_last p) ↔ tP T e' = p) := by
            intro e' he'
            constructor
            · rintro ⟨hc, hn⟩
              obtain ⟨h0, hu⟩ := (tt_c' hV htt he' hd).mp hc
              exact pa_inj (hV.1 e' he' h0).1 h0 hpo c2 hu (((htt.2 e' he').2 h0).2.1.symm.trans hn)
            · intro ep
              have h0 : tP T e' ≠ 0 := by rw [ep]; exact c2
              exact ⟨(tt_c' hV htt he' hd).mpr ⟨h0, by rw [ep]⟩, by rw [((htt.2 e' he').2 h0).2.1, ep]⟩
          (repeat (first | refine pm_W.ts rfl rfl ?_ | refine pm_W.tl rfl rfl ?_ | refine pm_W.get rfl rfl c1 rfl ?_))
          refine pm_W.callV (d' := 1) rfl rfl rfl rfl (fr_ble rfl) c13.1 (fr_ble rfl) (ct_T_childNamed c13 hd10 s5 (fun s hs1 hs2 hc hn => ?_) (fun hno => ?_))
          · obtain ⟨e', rfl⟩ : ∃ e', s = e' + 1 := ⟨s - 1, by omega⟩
            have ep := (key e' (by omega)).mp ⟨hc, hn⟩
            (repeat (first | refine pm_W.ts rfl rfl ?_ | refine pm_W.tl rfl rfl ?_))
            refine pm_W.icmp rfl (fun c4 => absurd c4 (fr_not1 (by omega))) (fun c4 => no2 _ _ (fun v' e q => q.2.2.2.2.1 e' (by omega) ep))
          · have hfree : ∀ e', e' < 10 → tP T e' ≠ p := fun e' he' ep => hno (e' + 1) (by omega) (by omega) ((key e' he').mpr ep)
            (repeat (first | refine pm_W.ts rfl rfl ?_ | refine pm_W.tl rfl rfl ?_))
            refine pm_W.icmp rfl (fun c4 => ?_) (fun c4 => absurd rfl c4)
            (repeat (first | refine pm_W.ts rfl rfl ?_ | refine pm_W.tl rfl rfl ?_ | refine pm_W.get rfl rfl c1 rfl ?_))
            refine pm_W.callV (d' := 1) rfl rfl rfl rfl (fr_ble rfl) c13.1 (fr_ble rfl) (ct_T_addEntry c13 hd10 s5 (by rcases hv with w | w <;> omega) (fun s hs1 hs2 hs3 hs4 g hg hag => ?_) (fun hfull => ?_))
            · obtain ⟨e, rfl⟩ : ∃ e, s = e + 1 := ⟨s - 1, by omega⟩
              have h0 : tP T e = 0 := (htt.2 e (by omega)).1.mpr hs3
              have cr : cr_ok T p (nI v) v e := ⟨hpo, c2, hv, rfl, hfree, hdT, by omega, h0, fun j hj q => hs4 (j + 1) (by omega) (by omega) ((htt.2 j (by omega)).1.mp q)⟩
              (repeat (first | refine pm_W.ts rfl rfl ?_ | refine pm_W.tl rfl rfl ?_))
              refine pm_W.icmp rfl (fun c5 => absurd c5 (fr_not1 (by omega))) (fun c5 => ?_)
              (repeat (first | refine pm_W.ts rfl rfl ?_ | refine pm_W.tl rfl rfl ?_))
              refine pm_W.goto rfl ?_
              exact pm_W.iret rfl rfl (k1 v e cr g _ (hb.utr hg hag) (tt_create hok htt (by omega) h0 c2 hv hd) (hag.wide (by omega) (by omega)))
            · (repeat (first | refine pm_W.ts rfl rfl ?_ | refine pm_W.tl rfl rfl ?_))
              refine pm_W.icmp rfl (fun c5 => ?_) (fun c5 => absurd rfl c5)
              (repeat (first | refine pm_W.ts rfl rfl ?_ | refine pm_W.tl rfl rfl ?_))
              refine pm_W.iret rfl rfl (k0 (fun v' e q => ?_))
              exact hfull (e + 1) (by omega) (by have := q.2.2.2.2.2.2.1; omega) ((htt.2 e q.2.2.2.2.2.2.1).1.mp q.2.2.2.2.2.2.2.1)
    (repeat (first | refine pm_W.ts rfl rfl ?_ | refine pm_W.tl rfl rfl ?_))
    refine pm_W.icmp rfl (fun c3 => go 1 (Or.inl rfl) c3) (fun c3 => ?_)
    (repeat (first | refine pm_W.ts rfl rfl ?_ | refine pm_W.tl rfl rfl ?_))
    refine pm_W.icmp rfl (fun c4 => go 2 (Or.inr rfl) c4) (fun c4 => no _ _ (fun v e q => ?_))
    rcases q.2.2.1 with w | w
    · subst w; exact c3 q.2.2.2.1
    · subst w; exact c4 q.2.2.2.1
theorem ct_T_fileAtT {a p : Nat} (hb : tr_R h a S) (hV : tV T) (htt : tt S T) (hp : p < 2 ^ 32) (k1 : ∀ e, fl_ok T p e → Q (some (.ref (a + 5 + 2 * (e + 1)))) h) (k0 : (∀ e, ¬ fl_ok T p e) → Q (some .null) h) : pm_X xs 4 mT_fileAt [.ref a, .int (nI p)] h Q := by
  refine ct_T_fileAt hb hp (fun hpo s hs hs10 hK => ?_) (fun hno => k0 (fun e q => ?_))
  · rcases (tt_find hV htt hpo hs).1 s rfl with ⟨rfl, -⟩ | ⟨e, he, rfl, hp0, ep⟩
    · rw [htt.1.1] at hK
      omega
    · exact k1 e ⟨hpo, hp0, he, ep, (((htt.2 e he).2 (by rw [ep]; exact hp0)).1).symm.trans hK⟩
  · obtain ⟨q1, q2, q3, q4, q5⟩ := q
    obtain ⟨o, ho, hK⟩ := hno q1
    obtain ⟨f1, f2⟩ := tt_find hV htt q1 ho
    have hat : te_at T (e + 1) p := Or.inr ⟨e, q3, rfl, q2, q4⟩
    cases o with
    | none => exact f2 rfl _ hat
    | some s =>
      have := te_at_fun hV (f1 s rfl) hat
      subst this
      exact hK _ rfl ((((htt.2 e q3).2 (by rw [q4]; exact q2)).1).trans q5)
theorem tt_setB {p e : Nat} {bs : List Int32} (htt : tt S T) (he : e < 10) (ep : tP T e = p) (hp : p ≠ 0) (hk : tK T e = 1) : tt (tr_setB S (e + 1) bs) (fr_up T e (p, 1, bs)) := by
  refine ⟨htt.1, fun j hj => ?_⟩
  obtain ⟨g1, g2⟩ := htt.2 j hj
  have hK : tr_K (tr_setB S (e + 1) bs) (j + 1) = tr_K S (j + 1) := rfl
  have hN : tr_N (tr_setB S (e + 1) bs) (j + 1) = tr_N S (j + 1) := rfl
  have hP : tr_P (tr_setB S (e + 1) bs) (j + 1) = tr_P S (j + 1) := rfl
  have hB : tr_B (tr_setB S (e + 1) bs) (j + 1) = if j + 1 = e + 1 then bs else tr_B S (j + 1) := rfl
  rw [hK, hN, hP, hB, tP_up, tK_up, tB_up]
  by_cases c : j = e
  · subst c
    rw [if_pos rfl, if_pos rfl, if_pos rfl, if_pos rfl]
    rw [ep] at g1 g2
    refine ⟨g1, fun q => ?_⟩
    obtain ⟨a1, a2, a3, w, a4, a5⟩ := g2 q
    exact ⟨a1.trans hk, a2, rfl, w, a4, te_at_up (Or.inr ep) a5⟩
  · rw [if_neg c, if_neg c, if_neg c, if_neg (by omega)]
    refine ⟨g1, fun q => ?_⟩
    obtain ⟨a1, a2, a3, w, a4, a5⟩ := g2 q
    exact ⟨a1, a2, a3, w, a4, te_at_up (Or.inr ep) a5⟩
theorem tt_fb (htt : tt S T) : tr_fb S = te_fb T := by
  unfold tr_fb te_fb
  apply tr_sm_eq
  intro s hs1 hs2
  obtain ⟨e, rfl⟩ : ∃ e, s = e + 1 := ⟨s - 1, by omega⟩
  obtain ⟨g1, g2⟩ := htt.2 e (by omega)
  rw [show e + 1 - 1 = e by omega]
  by_cases c : tP T e = 0
  · rw [if_neg (by unfold tr_f; rw [g1.mp c]; decide), if_neg (by simp [c])]
  · obtain ⟨a1, a2, a3, -⟩ := g2 c
    unfold tr_f
    rw [a1, a3]
    by_cases d : tK T e = 1
    · rw [if_pos (decide_eq_true d), if_pos (decide_eq_true ⟨c, d⟩)]
    · rw [if_neg (by rw [decide_eq_false d]; decide), if_neg (by rw [decide_eq_false (fun q => d q.2)]; decide)]
theorem ct_D_edit {p : Nat} {x v : Int32} (hb : dp_R h b z im st ca sd ws ta f S) (hV : tV T) (htt : tt S T) (hp : p < 2 ^ 32)
    (k1 : ∀ e i, fl_ok T p e → i < (tB T e).length → x = nI i → ∀ (h' : pm_H) (S' : tr_S), dp_R h' b z im st ca sd ws ta f S' → tt S' (fr_up T e (p, 1, (tB T e).set i (v &&& 255))) → fr_ag b (b + 185) h h' → Q (some (.int 1)) h')
    (k0 : (∀ e i, fl_ok T p e → i < (tB T e).length → x ≠ nI i) → Q (some (.int 0)) h) : pm_X xs 5 mD_edit [.ref b, .int (nI p), .int x, .int v] h Q := by
  have ht := dp_t_c b f
  obtain ⟨c1, c2, c3, c4, c5, c6, c7, c8, c9, c10, c11, c12, c13, c14⟩ := id hb
  unfold pm_X
  (repeat (first | refine pm_W.ts rfl rfl ?_ | refine pm_W.tl rfl rfl ?_ | refine pm_W.get rfl rfl c1 rfl ?_))
  refine pm_W.callV rfl rfl rfl rfl (fr_ble rfl) c13.1 (fr_ble rfl) (ct_T_fileAtT c13 hV htt hp (fun e he => ?_) (fun hno => ?_))
  · obtain ⟨q1, q2, q3, q4, q5⟩ := id he
    have hB := c13.2.2.2.2.2.1 (e + 1) (by omega)
    rw [((htt.2 e q3).2 (by rw [q4]; exact q2)).2.2.1] at hB
    obtain ⟨ys, b1, b2, b3, b4, b5, b6⟩ := id hB
    (repeat (first | refine pm_W.ts rfl rfl ?_ | refine pm_W.tl rfl rfl ?_))
    refine pm_W.ifnullR rfl ?_
    (repeat (first | refine pm_W.ts rfl rfl ?_ | refine pm_W.tl rfl rfl ?_))
    refine pm_W.callV (d' := 1) rfl rfl rfl rfl (fr_ble rfl) b1 (fr_ble rfl) (ct_B_change hB (fun hn => ?_) (fun t g ht2 et hg hag => ?_))
    · refine pm_W.ifz rfl (fun c => ?_) (fun c => absurd rfl c)
      (repeat (first | refine pm_W.ts rfl rfl ?_ | refine pm_W.tl rfl rfl ?_))
      refine pm_W.iret rfl rfl (k0 (fun e2 i h1 h2 h3 => ?_))
      have : e2 = e := hV.2.1 e2 e h1.2.2.1 q3 (by rw [h1.2.2.2.1]; exact q2) (h1.2.2.2.1.trans q4.symm)
      subst this
      rw [h3, show bt_has (tB T e2) (nI i) = true from decide_eq_true ⟨nI_pos' (by omega), nI_lt h2 (by omega)⟩] at hn
      cases hn
    · refine pm_W.ifz rfl (fun c => absurd (show (1 : Int32) = 0 from c) (by decide)) (fun c => ?_)
      (repeat (first | refine pm_W.ts rfl rfl ?_ | refine pm_W.tl rfl rfl ?_))
      refine pm_W.goto rfl ?_
      exact pm_W.iret rfl rfl (k1 e t he ht2 et g _ (hb.utr (c13.setB (by omega) hg hag) (hag.wide (by omega) (by omega))) (tt_setB htt q3 q4 q2 q5) (hag.wide (by omega) (by omega)))
  · (repeat (first | refine pm_W.ts rfl rfl ?_ | refine pm_W.tl rfl rfl ?_))
    refine pm_W.ifnullN rfl ?_
    (repeat (first | refine pm_W.ts rfl rfl ?_ | refine pm_W.tl rfl rfl ?_))
    exact pm_W.iret rfl rfl (k0 (fun e i h1 => absurd h1 (hno e)))
end TREEOPS
