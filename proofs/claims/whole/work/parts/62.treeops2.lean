def ap_ok (T : te_T) (p n e : Nat) : Prop := fl_ok T p e ∧ 1 ≤ n ∧ (tB T e).length + n ≤ 16 ∧ te_fb T + n ≤ 80
theorem ap_bs_succ {v : Int32} {n : Nat} : ap_bs v (n + 1) = ap_bs v n ++ [(v + nI (37 * n)) &&& 255] := by
  simp [ap_bs, List.range_succ]
theorem ap_bs_len {v : Int32} {n : Nat} : (ap_bs v n).length = n := by simp [ap_bs]
def rm_g (T : te_T) (p e : Nat) : Bool := decide (tP T e ≠ 0 ∧ tP T e % 2 ^ (5 * pa_d p) = p)
def rm_T (T : te_T) (p : Nat) : te_T := fun e => if rm_g T p e = true then (0, 0, []) else T e
section TREEOPS2
variable {xs : List Int32} {h : pm_H} {b : Nat} {z : cz_N} {im : Nat → dp_P} {st ca : dp_K} {sd : Nat → List Int32 × dp_P} {ws ta : List Nat} {f : Bool} {S : tr_S} {T : te_T} {Q : Option Value → pm_H → Prop}
theorem ct_D_append {p : Nat} {v x : Int32} (hb : dp_R h b z im st ca sd ws ta f S) (hV : tV T) (htt : tt S T) (hp : p < 2 ^ 32)
    (k1 : ∀ e n, ap_ok T p n e → x = nI n → ∀ (h' : pm_H) (S' : tr_S), dp_R h' b z im st ca sd ws ta f S' → tt S' (fr_up T e (p, 1, tB T e ++ ap_bs v n)) → fr_ag b (b + 185) h h' → Q (some (.int (nI ((tB T e).length + n)))) h')
    (k0 : (∀ e n, ap_ok T p n e → x ≠ nI n) → Q (some (.int (-1))) h) : pm_X xs 5 mD_append [.ref b, .int (nI p), .int v, .int x] h Q := by
  have ht := dp_t_c b f
  obtain ⟨c1, c2, c3, c4, c5, c6, c7, c8, c9, c10, c11, c12, c13, c14⟩ := id hb
  unfold pm_X
  (repeat (first | refine pm_W.ts rfl rfl ?_ | refine pm_W.tl rfl rfl ?_ | refine pm_W.get rfl rfl c1 rfl ?_))
  refine pm_W.callV rfl rfl rfl rfl (fr_ble rfl) c13.1 (fr_ble rfl) (ct_T_fileAtT c13 hV htt hp (fun e he => ?_) (fun hno => ?_))
  · obtain ⟨q1, q2, q3, q4, q5⟩ := id he
    have hB := c13.2.2.2.2.2.1 (e + 1) (by omega)
    rw [((htt.2 e q3).2 (by rw [q4]; exact q2)).2.2.1] at hB
    have hBl : (tB T e).length ≤ 16 := by obtain ⟨ys, -, -, -, -, g, -⟩ := id hB; exact g
    have uniq : ∀ {e2 n : Nat}, ap_ok T p n e2 → e2 = e := fun h1 => hV.2.1 _ e h1.1.2.2.1 q3 (by rw [h1.1.2.2.2.1]; exact q2) (h1.1.2.2.2.1.trans q4.symm)
    obtain ⟨ys, b1, -⟩ := id hB
    have no1 : (∀ e n, ap_ok T p n e → x ≠ nI n) → pm_W xs 5 mD_append 26 [.ref b, .int (nI p), .int v, .int x, .ref (dp_t b f + 5 + 2 * (e + 1)), pm_none] [] h Q := by
      intro hq
      (repeat (first | refine pm_W.ts rfl rfl ?_ | refine pm_W.tl rfl rfl ?_))
      exact pm_W.iret rfl rfl (k0 hq)
    have no2 : (∀ e n, ap_ok T p n e → x ≠ nI n) → pm_W xs 5 mD_append 54 [.ref b, .int (nI p), .int v, .int x, .ref (dp_t b f + 5 + 2 * (e + 1)), pm_none] [] h Q := by
      intro hq
      (repeat (first | refine pm_W.ts rfl rfl ?_ | refine pm_W.tl rfl rfl ?_))
      exact pm_W.iret rfl rfl (k0 hq)
    (repeat (first | refine pm_W.ts rfl rfl ?_ | refine pm_W.tl rfl rfl ?_))
    refine pm_W.ifnullR rfl ?_
    (repeat (first | refine pm_W.ts rfl rfl ?_ | refine pm_W.tl rfl rfl ?_))
    refine pm_W.icmp rfl (fun c => no1 (fun e2 n h1 h2 => ?_)) (fun c => ?_)
    · have c : x < nI 1 := c
      have := h1.2.1
      have h3 := h1.2.2.1
      rw [h2, nI_ltI (by omega) (by omega)] at c
      omega
    · have c : ¬ x < nI 1 := c
      (repeat (first | refine pm_W.ts rfl rfl ?_ | refine pm_W.tl rfl rfl ?_))
      refine pm_W.icmp rfl (fun d => ?_) (fun d => no1 (fun e2 n h1 h2 => ?_))
      · have d : x ≤ nI 16 := d
        obtain ⟨n, hn, rfl⟩ := fr_nat (x := x) (by
          rw [fr_lt, nI_toInt (by omega)] at c
          rw [fr_le]
          show 0 ≤ x.toInt
          omega)
        rw [nI_ltI hn (by omega)] at c
        rw [nI_leI hn (by omega)] at d
        (repeat (first | refine pm_W.ts rfl rfl ?_ | refine pm_W.tl rfl rfl ?_))
        refine pm_W.callV (d' := 0) rfl rfl rfl rfl (fr_ble rfl) b1 (fr_ble rfl) (ct_B_count hB ?_)
        (iterate 2 (first | refine pm_W.ts rfl rfl ?_ | refine pm_W.tl rfl rfl ?_))
        rw [nI_add]
        (iterate 1 (first | refine pm_W.ts rfl rfl ?_ | refine pm_W.tl rfl rfl ?_))
        refine pm_W.icmp rfl (fun g1 => no2 (fun e2 n2 h1 h2 => ?_)) (fun g1 => ?_)
        · have g1 : nI 16 < nI ((tB T e).length + n) := g1
          rw [nI_ltI (by omega) (by omega)] at g1
          have e3 := uniq h1
          subst e3
          have h3 := h1.2.2.1
          rw [nI_eq (by omega) (by omega)] at h2
          omega
        · have g1 : ¬ nI 16 < nI ((tB T e).length + n) := g1
          rw [nI_ltI (by omega) (by omega)] at g1
          have hfb := hV.2.2
          (repeat (first | refine pm_W.ts rfl rfl ?_ | refine pm_W.tl rfl rfl ?_ | refine pm_W.get rfl rfl c1 rfl ?_))
          refine pm_W.callV (d' := 1) rfl rfl rfl rfl (fr_ble rfl) c13.1 (fr_ble rfl) (ct_T_fileBytes c13 ?_)
          rw [show tr_sm (tr_f S) (fun s => (tr_B S s).length) 10 = te_fb T from tt_fb htt]
          (iterate 2 (first | refine pm_W.ts rfl rfl ?_ | refine pm_W.tl rfl rfl ?_))
          rw [nI_add]
          (iterate 1 (first | refine pm_W.ts rfl rfl ?_ | refine pm_W.tl rfl rfl ?_))
          refine pm_W.icmp rfl (fun g2 => ?_) (fun g2 => no2 (fun e2 n2 h1 h2 => ?_))
          · have g2 : nI (te_fb T + n) ≤ nI 80 := g2
            rw [nI_leI (by omega) (by omega)] at g2
            have loop : ∀ (r i : Nat) (g : pm_H), i + r = n → bt_R g (dp_t b f + 5 + 2 * (e + 1)) 16 (tB T e ++ ap_bs v i) → fr_ag (dp_t b f + 5 + 2 * (e + 1)) (dp_t b f + 5 + 2 * (e + 1) + 2) h g → pm_W xs 5 mD_append 59 [.ref b, .int (nI p), .int v, .int (nI n), .ref (dp_t b f + 5 + 2 * (e + 1)), .int (nI i)] [] g Q := by
              intro r
              induction r with
              | zero =>
                intro i g hi hg hag
                (repeat (first | refine pm_W.ts rfl rfl ?_ | refine pm_W.tl rfl rfl ?_))
                refine pm_W.icmp rfl (fun c => ?_) (fun c => ?_)
                · have hi : i = n := by omega
                  subst hi
                  obtain ⟨zs, w1, -⟩ := id hg
                  (repeat (first | refine pm_W.ts rfl rfl ?_ | refine pm_W.tl rfl rfl ?_))
                  refine pm_W.callV (d' := 0) rfl rfl rfl rfl (fr_ble rfl) w1 (fr_ble rfl) (ct_B_count hg ?_)
                  rw [List.length_append, ap_bs_len]
                  exact pm_W.iret rfl rfl (k1 e i ⟨he, by omega, by omega, g2⟩ rfl g _ (hb.utr (c13.setB (by omega) hg hag) (hag.wide (by omega) (by omega))) (tt_setB htt q3 q4 q2 q5) (hag.wide (by omega) (by omega)))
                · have c : ¬ nI n ≤ nI i := c
                  rw [nI_leI (by omega) (by omega)] at c
                  omega
              | succ r ih =>
                intro i g hi hg hag
                (repeat (first | refine pm_W.ts rfl rfl ?_ | refine pm_W.tl rfl rfl ?_))
                refine pm_W.icmp rfl (fun c => ?_) (fun c => ?_)
                · have c : nI n ≤ nI i := c
                  rw [nI_leI (by omega) (by omega)] at c
                  omega
                · have e1 : (Int8.ofInt 37).toInt32 * nI i = nI (37 * i) := fr_mul 37 i
                  obtain ⟨zs, w1, -⟩ := id hg
                  (repeat (first | refine pm_W.ts rfl rfl ?_ | refine pm_W.tl rfl rfl ?_))
                  rw [e1]
                  refine pm_W.callV (d' := 0) rfl rfl rfl rfl (fr_ble rfl) w1 (fr_ble rfl) (ct_B_add hg (fun q => by rw [List.length_append, ap_bs_len] at q; omega) (fun _ g3 hg3 hag3 => ?_))
                  rw [List.append_assoc, ← ap_bs_succ] at hg3
                  (iterate 2 (first | refine pm_W.ts rfl rfl ?_ | refine pm_W.tl rfl rfl ?_))
                  refine pm_W.goto rfl ?_
                  have := ih (i + 1) g3 (by omega) hg3 (hag.tr hag3)
                  rw [← fr_inc] at this
                  exact this
            (iterate 2 (first | refine pm_W.ts rfl rfl ?_ | refine pm_W.tl rfl rfl ?_))
            exact loop n 0 h (by omega) (by simpa [ap_bs] using hB) fr_ag.rf
          · have g2 : ¬ nI (te_fb T + n) ≤ nI 80 := g2
            rw [nI_leI (by omega) (by omega)] at g2
            have h3 := h1.2.2.2
            rw [nI_eq (by omega) (by omega)] at h2
            omega
      · have d : ¬ x ≤ nI 16 := d
        have h3 := h1.2.2.1
        rw [h2, nI_leI (by omega) (by omega)] at d
        omega
  · (repeat (first | refine pm_W.ts rfl rfl ?_ | refine pm_W.tl rfl rfl ?_))
    refine pm_W.ifnullN rfl ?_
    (repeat (first | refine pm_W.ts rfl rfl ?_ | refine pm_W.tl rfl rfl ?_))
    exact pm_W.iret rfl rfl (k0 (fun e n h1 => absurd h1.1 (hno e)))
theorem tt_lies (hV : tV T) (htt : tt S T) {t p : Nat} (hp : te_at T t p) (hp0 : p ≠ 0) : ∀ (fu q x : Nat), te_at T q x → pa_ok x = true → pa_d x < fu → (tr_lies S t fu (some q) = true ↔ ∃ k, k ≤ pa_d x ∧ x % 2 ^ (5 * k) = p) := by
  intro fu
  induction fu with
  | zero => intro q x _ _ h; omega
  | succ fu ih =>
    intro q x hq hx hd
    have e : tr_lies S t (fu + 1) (some q) = (Nat.beq q t || tr_lies S t fu (tr_P S q)) := rfl
    rw [e, Bool.or_eq_true]
    by_cases c : q = t
    · subst c
      refine ⟨fun _ => ⟨pa_d x, Nat.le_refl _, by rw [pa_full hx]; exact te_at_inj hq hp⟩, fun _ => Or.inl (Nat.beq_refl q)⟩
    · have hne : x ≠ p := fun z => c (te_at_fun hV (by rw [z] at hq; exact hq) hp)
      have hb : Nat.beq q t = false := by
        cases hq2 : Nat.beq q t with
        | false => rfl
        | true => exact absurd (Nat.eq_of_beq_eq_true hq2) c
      rw [hb]
      rcases hq with ⟨rfl, rfl⟩ | ⟨e', he', rfl, hx0, ep⟩
      · rw [htt.1.2.2]
        have hz : tr_lies S t fu none = false := by cases fu <;> rfl
        rw [hz]
        constructor
        · rintro (z | z) <;> cases z
        · rintro ⟨k, -, z⟩
          rw [Nat.zero_mod] at z
          exact absurd z.symm hp0
      · obtain ⟨-, -, -, w, hw, ha⟩ := (htt.2 e' he').2 (by rw [ep]; exact hx0)
        rw [ep] at ha
        obtain ⟨s1, s2, s3, -⟩ := pa_split hx hx0
        have hd1 := pa_d_pos hx hx0
        rw [hw]
        have i1 := ih w (pa_up x) ha s3 (by omega)
        rw [i1]
        constructor
        · rintro (z | ⟨k, hk, z⟩)
          · cases z
          · refine ⟨k, by omega, ?_⟩
            unfold pa_up at z
            rw [Nat.mod_mod_of_dvd] at z
            · exact z
            · exact Nat.pow_dvd_pow 2 (by omega)
        · rintro ⟨k, hk, z⟩
          right
          have hk2 : k ≠ pa_d x := fun w2 => hne (by rw [w2, pa_full hx] at z; exact z)
          refine ⟨k, by omega, ?_⟩
          unfold pa_up
          rw [Nat.mod_mod_of_dvd]
          · exact z
          · exact Nat.pow_dvd_pow 2 (by omega)
theorem tt_goes (hV : tV T) (htt : tt S T) {t p e : Nat} (hp : te_at T t p) (hpo : pa_ok p = true) (hp0 : p ≠ 0) (he : e < 10) : tr_g S t (e + 1) = rm_g T p e := by
  obtain ⟨g1, g2⟩ := htt.2 e he
  unfold tr_g rm_g tr_u
  by_cases c : tP T e = 0
  · rw [decide_eq_false (fun q => q (g1.mp c)), decide_eq_false (fun q => q.1 c)]
    rfl
  · have hx := (hV.1 e he c).1
    rw [decide_eq_true (show tr_K S (e + 1) ≠ 0 from fun q => c (g1.mpr q)), Bool.true_and]
    have h1 := tt_lies hV htt hp hp0 7 (e + 1) (tP T e) (Or.inr ⟨e, he, rfl, c, rfl⟩) hx (by have := (pa_d_spec (tP T e)).1; omega)
    by_cases d : tP T e % 2 ^ (5 * pa_d p) = p
    · rw [decide_eq_true ⟨c, d⟩]
      apply h1.mpr
      by_cases hle : pa_d p ≤ pa_d (tP T e)
      · exact ⟨pa_d p, hle, d⟩
      · refine ⟨pa_d (tP T e), Nat.le_refl _, ?_⟩
        rw [pa_full hx]
        rw [Nat.mod_eq_of_lt] at d
        · exact d
        · exact Nat.lt_of_lt_of_le (pa_ok_lt hx) (Nat.pow_le_pow_right (by omega) (by omega))
    · rw [decide_eq_false (fun q => d q.2)]
      cases hl : tr_lies S t 7 (some (e + 1)) with
      | false => rfl
      | true =>
        obtain ⟨k, hk, z⟩ := h1.mp hl
        have hkd := (pa_pre (p := tP T e) (k := k) hk).1
        rw [z] at hkd
        rw [← hkd] at z
        exact absurd z d
theorem tr_away_all {t : Nat} (hok : tr_ok S) : ∀ n, n ≤ 10 → ∀ s, tr_K (tr_away S t n) s = (if 1 ≤ s ∧ s ≤ n ∧ tr_g S t s = true then 0 else tr_K S s) ∧ tr_N (tr_away S t n) s = tr_N S s ∧ tr_P (tr_away S t n) s = tr_P S s ∧ tr_B (tr_away S t n) s = tr_B S s := by
  intro n
  induction n with
  | zero => intro _ s; exact ⟨by rw [if_neg (by omega)]; rfl, rfl, rfl, rfl⟩
  | succ n ih =>
    intro hn s
    obtain ⟨i1, i2, i3, i4⟩ := ih (by omega) s
    have ho := (tr_away_ok (t := t) hok n (by omega)).1
    unfold tr_away
    by_cases c : tr_g S t (n + 1) = true
    · rw [if_pos c]
      refine ⟨?_, i2, i3, i4⟩
      rw [tr_setK_K ho (by omega), i1]
      by_cases e : s = n + 1
      · subst e
        rw [if_pos rfl, if_pos ⟨by omega, Nat.le_refl _, c⟩]
      · rw [if_neg e]
        by_cases d : 1 ≤ s ∧ s ≤ n ∧ tr_g S t s = true
        · rw [if_pos d, if_pos ⟨d.1, by omega, d.2.2⟩]
        · rw [if_neg d, if_neg (fun q => d ⟨q.1, by omega, q.2.2⟩)]
    · rw [if_neg c]
      refine ⟨?_, i2, i3, i4⟩
      rw [i1]
      by_cases d : 1 ≤ s ∧ s ≤ n ∧ tr_g S t s = true
      · rw [if_pos d, if_pos ⟨d.1, by omega, d.2.2⟩]
      · rw [if_neg d, if_neg (fun q => d ⟨q.1, by
          by_cases e : s = n + 1
          · subst e; exact absurd q.2.2 c
          · omega, q.2.2⟩)]
theorem rm_tP {p e : Nat} : tP (rm_T T p) e = if rm_g T p e = true then 0 else tP T e := by
  unfold tP rm_T
  split <;> rfl
theorem rm_tK {p e : Nat} (h : rm_g T p e = false) : tK (rm_T T p) e = tK T e := by
  unfold tK rm_T
  rw [if_neg (by rw [h]; decide)]
theorem rm_tB {p e : Nat} (h : rm_g T p e = false) : tB (rm_T T p) e = tB T e := by
  unfold tB rm_T
  rw [if_neg (by rw [h]; decide)]
theorem rm_up {p e : Nat} (hV : tV T) (he : e < 10) (h0 : tP T e ≠ 0) (hs : rm_g T p e = false) {e' : Nat} (he' : e' < 10) (hu : tP T e' = pa_up (tP T e)) (hu0 : tP T e' ≠ 0) (hpo : pa_ok p = true) : rm_g T p e' = false := by
  cases hg : rm_g T p e' with
  | false => rfl
  | true =>
    have hg := of_decide_eq_true hg
    have hx := (hV.1 e he h0).1
    obtain ⟨s1, s2, s3, -⟩ := pa_split hx h0
    have hd1 := pa_d_pos hx h0
    have hs : ¬ (tP T e ≠ 0 ∧ tP T e % 2 ^ (5 * pa_d p) = p) := of_decide_eq_false hs
    exfalso
    apply hs
    refine ⟨h0, ?_⟩
    have hm := hg.2
    rw [hu] at hm
    by_cases hle : pa_d p ≤ pa_d (tP T e) - 1
    · unfold pa_up at hm
      rw [Nat.mod_mod_of_dvd] at hm
      · exact hm
      · exact Nat.pow_dvd_pow 2 (by omega)
    · have e1 : pa_up (tP T e) % 2 ^ (5 * pa_d p) = pa_up (tP T e) := Nat.mod_eq_of_lt (Nat.lt_of_lt_of_le (pa_ok_lt s3) (Nat.pow_le_pow_right (by omega) (by omega)))
      rw [e1] at hm
      rw [hm] at s2
      omega
theorem tt_remove (hV : tV T) (hok : tr_ok S) (htt : tt S T) {t p : Nat} (hp : te_at T t p) (hpo : pa_ok p = true) (hp0 : p ≠ 0) : tt (tr_away S t 10) (rm_T T p) := by
  have hall := tr_away_all (t := t) hok 10 (Nat.le_refl _)
  refine ⟨?_, fun e he => ?_⟩
  · obtain ⟨a1, a2, a3, -⟩ := hall 0
    refine ⟨?_, a2.trans htt.1.2.1, a3.trans htt.1.2.2⟩
    rw [a1, if_neg (by omega)]
    exact htt.1.1
  · obtain ⟨a1, a2, a3, a4⟩ := hall (e + 1)
    obtain ⟨g1, g2⟩ := htt.2 e he
    have hg := tt_goes hV htt hp hpo hp0 he
    rw [a1, a2, a3, a4, rm_tP]
    by_cases c : rm_g T p e = true
    · rw [if_pos c, if_pos ⟨by omega, by omega, by rw [hg]; exact c⟩]
      exact ⟨⟨fun _ => rfl, fun _ => rfl⟩, fun q => absurd rfl q⟩
    · rw [if_neg c, if_neg (fun q => c (by rw [← hg]; exact q.2.2))]
      have c' : rm_g T p e = false := by
        cases hq : rm_g T p e with
        | false => rfl
        | true => exact absurd hq c
      refine ⟨g1, fun h0 => ?_⟩
      obtain ⟨b1, b2, b3, w, b4, b5⟩ := g2 h0
      refine ⟨b1.trans (rm_tK c').symm, b2, b3.trans (rm_tB c').symm, w, b4, ?_⟩
      rcases b5 with b5 | ⟨e', he', rfl, hu0, ep⟩
      · exact Or.inl b5
      · refine Or.inr ⟨e', he', rfl, hu0, ?_⟩
        rw [rm_tP, if_neg (by rw [rm_up hV he h0 c' he' ep (by rw [ep]; exact hu0) hpo]; decide)]
        exact ep
theorem tr_cnt_eq {u w : Nat → Bool} : ∀ n, (∀ s, 1 ≤ s → s ≤ n → u s = w s) → tr_cnt u n = tr_cnt w n := by
  intro n
  induction n with
  | zero => intro _; rfl
  | succ n ih =>
    intro hs
    show _ + _ = _ + _
    rw [ih (fun s h1 h2 => hs s h1 (by omega)), hs (n + 1) (by omega) (Nat.le_refl _)]
theorem ct_D_remove {p : Nat} (hb : dp_R h b z im st ca sd ws ta f S) (hV : tV T) (htt : tt S T) (hp : p < 2 ^ 32)
    (k1 : pa_ok p = true → p ≠ 0 → (∃ e, e < 10 ∧ tP T e = p) → ∀ (h' : pm_H) (S' : tr_S), dp_R h' b z im st ca sd ws ta f S' → tt S' (rm_T T p) → fr_ag b (b + 185) h h' → Q (some (.int (nI (tr_cnt (fun s => rm_g T p (s - 1)) 10)))) h')
    (k0 : ¬ (pa_ok p = true ∧ p ≠ 0 ∧ ∃ e, e < 10 ∧ tP T e = p) → Q (some (.int (-1))) h) : pm_X xs 4 mD_remove [.ref b, .int (nI p)] h Q := by
  have ht := dp_t_c b f
  obtain ⟨c1, c2, c3, c4, c5, c6, c7, c8, c9, c10, c11, c12, c13, c14⟩ := id hb
  have hok : tr_ok S := c13.2.2.2.2.2.2
  have no : ∀ v2 : Value, ¬ (pa_ok p = true ∧ p ≠ 0 ∧ ∃ e, e < 10 ∧ tP T e = p) → pm_W xs 4 mD_remove 18 [.ref b, .int (nI p), v2] [] h Q := by
    intro v2 q
    (repeat (first | refine pm_W.ts rfl rfl ?_ | refine pm_W.tl rfl rfl ?_))
    exact pm_W.iret rfl rfl (k0 q)
  unfold pm_X
  (repeat (first | refine pm_W.ts rfl rfl ?_ | refine pm_W.tl rfl rfl ?_ | refine pm_W.get rfl rfl c1 rfl ?_))
  refine pm_W.callV rfl rfl rfl rfl (fr_ble rfl) c13.1 (fr_ble rfl) (ct_T_find c13 hp (fun hn => ?_) (fun hpo o ho => ?_))
  · (repeat (first | refine pm_W.ts rfl rfl ?_ | refine pm_W.tl rfl rfl ?_))
    refine pm_W.icmp rfl (fun c => no _ (fun q => by rw [hn] at q; cases q.1)) (fun c => absurd rfl c)
  · obtain ⟨f1, f2⟩ := tt_find hV htt hpo ho
    cases o with
    | none =>
      (repeat (first | refine pm_W.ts rfl rfl ?_ | refine pm_W.tl rfl rfl ?_))
      refine pm_W.icmp rfl (fun c => no _ ?_) (fun c => absurd rfl c)
      rintro ⟨-, q2, e, he, ep⟩
      exact f2 rfl (e + 1) (Or.inr ⟨e, he, rfl, q2, ep⟩)
    | some t =>
      have hat := f1 t rfl
      have ht10 := te_at_le hat
      (repeat (first | refine pm_W.ts rfl rfl ?_ | refine pm_W.tl rfl rfl ?_))
      refine pm_W.icmp rfl (fun c => absurd c (fr_not1 (n := t) (by omega))) (fun c => ?_)
      (repeat (first | refine pm_W.ts rfl rfl ?_ | refine pm_W.tl rfl rfl ?_))
      refine pm_W.ifz rfl (fun c3 => ?_) (fun c3 => ?_)
      · have c3 : ¬ nI t = nI 0 := c3
        rw [nI_eq (by omega) (by omega)] at c3
        rcases hat with ⟨z1, -⟩ | ⟨e, he, et, hp0, ep⟩
        · exact absurd z1 c3
        · have hat : te_at T t p := Or.inr ⟨e, he, et, hp0, ep⟩
          (repeat (first | refine pm_W.ts rfl rfl ?_ | refine pm_W.tl rfl rfl ?_ | refine pm_W.get rfl rfl c1 rfl ?_))
          refine pm_W.callV rfl rfl rfl rfl (fr_ble rfl) c13.1 (fr_ble rfl) (ct_T_takeAway c13 (by omega) (fun g hg hag => ?_))
          rw [tr_cnt_eq (u := tr_g S t) (w := fun s => rm_g T p (s - 1)) 10 (fun s h1 h2 => by
            obtain ⟨e2, rfl⟩ : ∃ e2, s = e2 + 1 := ⟨s - 1, by omega⟩
            exact tt_goes hV htt hat hpo hp0 (by omega))]
          exact pm_W.iret rfl rfl (k1 hpo hp0 ⟨e, he, ep⟩ g _ (hb.utr hg hag) (tt_remove hV hok htt hat hpo hp0) (hag.wide (by omega) (by omega)))
      · have c3 : ¬ ¬ nI t = nI 0 := c3
        have c3 := Classical.not_not.mp c3
        rw [nI_eq (by omega) (by omega)] at c3
        refine no _ ?_
        rintro ⟨-, q2, -⟩
        rcases hat with ⟨-, z⟩ | ⟨e, he, et, -⟩
        · exact q2 z
        · omega
end TREEOPS2
