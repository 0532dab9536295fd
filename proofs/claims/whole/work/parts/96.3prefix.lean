theorem em_run_snoc {T : te_T} {d w : Nat} {os : List Int32} : ∀ (m : Nat) (q : ws_Q), em_run T m q = (some d, w, os) → em_run T (m + 1) q = em_step T d w os := by
  intro m
  induction m with
  | zero =>
    intro q h
    have h : q = (some d, w, os) := h
    rw [h]
    rfl
  | succ m ih =>
    intro q h
    obtain ⟨d', w', os'⟩ := q
    cases d' with
    | none =>
      have h : ((none, w', os') : ws_Q) = (some d, w, os) := h
      cases h
    | some d' => exact ih (em_step T d' w' os') h
theorem em_run_add {T : te_T} : ∀ (a b : Nat) (q : ws_Q), em_run T (a + b) q = em_run T b (em_run T a q) := by
  intro a
  induction a with
  | zero => intro b q; rw [Nat.zero_add]; rfl
  | succ a ih =>
    intro b q
    obtain ⟨d, w, os⟩ := q
    cases d with
    | none =>
      rw [em_run_none, em_run_none, em_run_none]
    | some d =>
      rw [show a + 1 + b = a + b + 1 by omega]
      exact ih b (em_step T d w os)
def ue (T T' : te_T) (n D w : Nat) : Prop := tV T' ∧ (∀ e, e < n → T' e = T e) ∧ ∀ e, n ≤ e → e < 10 → tP T' e ≠ 0 → bh D w (tP T' e)
def uo (ws : List Nat) (os : List Int32) (bad : Option Nat) : Prop := match bad with
  | none => ∀ q, q < os.length → os.getD q 0 = nI (rd_w ws q)
  | some q0 => q0 < os.length ∧ (∀ q, q < q0 → os.getD q 0 = nI (rd_w ws q)) ∧ os.getD q0 0 ≠ nI (rd_w ws q0)
def ur (ws : List Nat) (T : te_T) (n D w p m : Nat) (os : List Int32) (bad : Option Nat) : Prop := uk_V T n D ∧ w ≤ 31 ∧ (∀ e, e < n → ¬ bh D w (tP T e)) ∧ (w = 0 ∨ ∃ e, e < n ∧ pa_up (tP T e) = D ∧ pa_last (tP T e) = w) ∧ m + pa_d D ≤ 2 * n ∧ (∀ T', ue T T' n D w → em_run T' m (some 0, 0, []) = (some D, w, os)) ∧ os.length = p ∧ uo ws os bad
theorem uo_app {ws : List Nat} {os r : List Int32} {bad : Option Nat} (h : uo ws os bad) (hr : ∀ t, t < r.length → r.getD t 0 = nI (rd_w ws (os.length + t))) : uo ws (os ++ r) bad := by
  cases bad with
  | none =>
    intro q hq
    rw [List.length_append] at hq
    rw [fr_gapp]
    by_cases c : q < os.length
    · rw [if_pos c]; exact h q c
    · rw [if_neg c, hr _ (by omega), show os.length + (q - os.length) = q by omega]
  | some q0 =>
    obtain ⟨h1, h2, h3⟩ := h
    refine ⟨by rw [List.length_append]; omega, fun q hq => ?_, ?_⟩
    · rw [fr_gapp, if_pos (by omega)]
      exact h2 q hq
    · rw [fr_gapp, if_pos h1]
      exact h3
theorem uo_9 {ws : List Nat} {T : te_T} {D p : Nat} {os : List Int32} {bad : Option Nat} (h : uo ws os bad) (hp : os.length = p) (h9 : rd_w ws p = 9) (hby : rd_by ws) : uo ws (os ++ [9, nI (tr_cnt (em_c T D) 10)]) (uk_b ws T D p bad) := by
  have hc := tr_cnt_le (f := em_c T D) 10
  have hl := rd_lt hby (p + 1)
  cases bad with
  | some q0 =>
    show uo ws (os ++ _) (some q0)
    obtain ⟨h1, h2, h3⟩ := h
    refine ⟨by rw [List.length_append]; omega, fun q hq => ?_, ?_⟩
    · rw [fr_gapp, if_pos (by omega)]
      exact h2 q hq
    · rw [fr_gapp, if_pos h1]
      exact h3
  | none =>
    by_cases c : rd_w ws (p + 1) = tr_cnt (em_c T D) 10
    · have e : uk_b ws T D p none = none := by unfold uk_b; show (if _ = _ then none else _) = none; rw [if_pos c]
      rw [e]
      refine uo_app h (fun t ht => ?_)
      have ht : t < 2 := ht
      match t, ht with
      | 0, _ => rw [hp, Nat.add_zero, h9]; rfl
      | 1, _ => rw [hp, c]; rfl
      | m + 2, ht => omega
    · have e : uk_b ws T D p none = some (p + 1) := by unfold uk_b; show (if _ = _ then none else _) = _; rw [if_neg c]
      rw [e]
      refine ⟨by rw [List.length_append, hp]; show p + 1 < p + 2; omega, fun q hq => ?_, ?_⟩
      · rw [fr_gapp]
        by_cases cq : q < os.length
        · rw [if_pos cq]; exact h q cq
        · rw [if_neg cq, show q - os.length = 0 by omega, show q = p by omega, h9]
          rfl
      · rw [fr_gapp, if_neg (by omega), show p + 1 - os.length = 1 by omega]
        show nI (tr_cnt (em_c T D) 10) ≠ nI (rd_w ws (p + 1))
        intro z
        rw [nI_eq (by omega) (by omega)] at z
        exact c z.symm
theorem bh_mono {D w w' y : Nat} (h : w ≤ w') (hb : bh D w' y) : bh D w y := by
  unfold bh at hb ⊢
  omega
theorem bh_in {D w x y : Nat} (hx : pa_ok x = true) (h0 : x ≠ 0) (hD : pa_up x = D) (hw : w < pa_last x) (hb : bh x 0 y) : bh D w y := by
  obtain ⟨e1, e2, e3, e4⟩ := bh_split hx h0
  rw [hD] at e1 e2 e3 e4
  unfold bh at hb ⊢
  rw [od_s] at hb
  have a := pa_n_lt (p := y) (i := pa_d x)
  rw [← e1]
  omega
theorem bh_sib {D x c : Nat} (hx : pa_ok x = true) (h0 : x ≠ 0) (hD : pa_up x = D) (hc : pa_ok c = true) (hc0 : c ≠ 0) (hcD : pa_up c = D) (hb : bh x 0 c) : pa_last x < pa_last c := by
  obtain ⟨e1, e2, e3, e4⟩ := bh_split hx h0
  obtain ⟨f1, f2, f3, f4⟩ := bh_split hc hc0
  rw [hD] at e1 e2 e3 e4
  rw [hcD] at f1 f2 f3 f4
  unfold bh at hb
  rw [od_s, pa_n6 hc (by omega), e4, show pa_d x = pa_d c by omega, f4] at hb
  omega
theorem bh_self {x : Nat} (hx : pa_ok x = true) : ¬ bh x 0 x := by
  unfold bh
  rw [od_s, pa_n6 hx (Nat.le_refl _)]
  omega
section PREFIX
variable {ws : List Nat} {T : te_T} {n D w p m : Nat} {os : List Int32} {bad : Option Nat}
theorem ur_gr (h : ur ws T n D w p m os bad) : gr T D = w := by
  obtain ⟨⟨v1, v2, v3, v4, v5, v6⟩, h2, h3, h4, h5, h6, h7, h8⟩ := h
  have le : gr T D ≤ w := by
    rcases (tr_mx_spec (f := em_c T D) (g := em_n T) 10).2 with q | ⟨s, s1, s2, s3, s4⟩
    · show tr_mx _ _ _ ≤ w
      omega
    · have b := of_decide_eq_true s3
      have hlt : s - 1 < n := by
        rcases Nat.lt_or_ge (s - 1) n with c | c
        · exact c
        · exact absurd (v4 (s - 1) c (by omega)) b.1
      have := fun q => h3 (s - 1) hlt ((bh_child (tV_ok v1 (show s - 1 < 10 by omega) b.1) b.1 b.2).mpr q)
      show tr_mx _ _ _ ≤ w
      rw [← s4]
      exact Nat.le_of_not_lt this
  rcases h4 with q | ⟨e, e1, e2, e3⟩
  · omega
  · have := gr_le (T := T) (show e < 10 by omega) (v3 e e1) e2
    omega
theorem ur_none (h : ur ws T n D w p m os bad) : em_best T D w = none := by
  obtain ⟨⟨v1, v2, v3, v4, v5, v6⟩, h2, h3, h4, h5, h6, h7, h8⟩ := h
  cases hb : em_best T D w with
  | none => rfl
  | some s =>
    obtain ⟨c, a1, a2, a3, a4, a5, a6⟩ := em_best_some hb
    have hlt : c < n := by
      rcases Nat.lt_or_ge c n with q | q
      · exact q
      · exact absurd (v4 c q a1) a3
    exact absurd ((bh_child (tV_ok v1 a1 a3) a3 a4).mpr a5) (h3 c hlt)
theorem ur_self (h : ur ws T n D w p m os bad) : ue T T n D w := ⟨h.1.1, fun _ _ => rfl, fun e h1 h2 h3 => absurd (h.1.2.2.2.1 e h1 h2) h3⟩
theorem ur_out (h : ur ws T n D w p m os bad) : ∃ r, em_out T = os ++ ([9, nI (tr_cnt (em_c T D) 10)] ++ r) := by
  have e1 := h.2.2.2.2.2.1 T (ur_self h)
  have e2 := em_run_snoc m _ e1
  have e3 : (em_step T D w os).2.2 = os ++ [9, nI (tr_cnt (em_c T D) 10)] := by
    unfold em_step
    rw [ur_none h]
  have h5 := h.2.2.2.2.1
  have h10 := h.1.2.1
  have e4 := em_run_add (T := T) (m + 1) (22 - (m + 1)) (some 0, 0, [])
  rw [show m + 1 + (22 - (m + 1)) = 22 by omega, e2] at e4
  obtain ⟨r, hr⟩ := em_run_pre (T := T) (22 - (m + 1)) (em_step T D w os)
  refine ⟨r, ?_⟩
  unfold em_out
  rw [e4, hr, e3, List.append_assoc]
theorem ur_start : ur ws uk_T0 0 0 0 0 0 [] none := by
  refine ⟨uk_V0, by omega, fun e h => absurd h (by omega), Or.inl rfl, ?_, fun _ _ => rfl, rfl, fun q hq => absurd hq (Nat.not_lt_zero _)⟩
  show 0 + 0 ≤ 2 * 0
  omega
theorem ur_close (h : ur ws T n D w p m os bad) (hD : D ≠ 0) (h9 : rd_w ws p = 9) (hby : rd_by ws) : ur ws T n (pa_up D) (pa_last D) (p + 2) (m + 1) (os ++ [9, nI (tr_cnt (em_c T D) 10)]) (uk_b ws T D p bad) := by
  have hV := h.1
  obtain ⟨⟨v1, v2, v3, v4, v5, v6⟩, h2, h3, h4, h5, h6, h7, h8⟩ := h
  obtain ⟨s1, s2, s3, s4, s5⟩ := pa_split v6 hD
  obtain ⟨b1, b2, b3, b4⟩ := bh_split v6 hD
  obtain ⟨e, he, eD, eK⟩ : ∃ e, e < 10 ∧ tP T e = D ∧ tK T e = 2 := by
    rcases v5 with q | q
    · exact absurd q hD
    · exact q
  have hen : e < n := by
    rcases Nat.lt_or_ge e n with q | q
    · exact q
    · exact absurd (v4 e q he) (by rw [eD]; exact hD)
  refine ⟨uk_Vu hV hD, s5, fun e' he' q => h3 e' he' (bh_close v6 hD h2 q), Or.inr ⟨e, hen, by rw [eD], by rw [eD]⟩, by omega, fun T' hT' => ?_, by rw [List.length_append, h7]; rfl, uo_9 h8 h7 h9 hby⟩
  obtain ⟨u1, u2, u3⟩ := hT'
  have notc : ∀ c, n ≤ c → c < 10 → tP T' c ≠ 0 → pa_up (tP T' c) ≠ D := by
    intro c c1 c2 c3 c4
    have := u3 c c1 c2 c3
    obtain ⟨f1, f2, f3, f4⟩ := bh_split (tV_ok u1 c2 c3) c3
    rw [c4] at f1 f2 f3 f4
    unfold bh at this
    rw [← b4, ← b1, f2] at this
    omega
  have hue : ue T T' n D w := ⟨u1, u2, fun c c1 c2 c3 => bh_close v6 hD h2 (u3 c c1 c2 c3)⟩
  rw [em_run_snoc m _ (h6 T' hue)]
  have hnb : em_best T' D w = none := by
    cases hb : em_best T' D w with
    | none => rfl
    | some s =>
      obtain ⟨c, a1, a2, a3, a4, a5, a6⟩ := em_best_some hb
      rcases Nat.lt_or_ge c n with q | q
      · have ec : tP T' c = tP T c := by unfold tP; rw [u2 c q]
        rw [ec] at a3 a4 a5
        exact absurd ((bh_child (tV_ok v1 a1 a3) a3 a4).mpr a5) (h3 c q)
      · exact absurd a4 (notc c q a1 a3)
  have hcnt : tr_cnt (em_c T' D) 10 = tr_cnt (em_c T D) 10 := by
    apply tr_cnt_eq
    intro s q1 q2
    obtain ⟨c, rfl⟩ : ∃ c, s = c + 1 := ⟨s - 1, by omega⟩
    unfold em_c
    rw [show c + 1 - 1 = c by omega]
    rcases Nat.lt_or_ge c n with q | q
    · have ec : tP T' c = tP T c := by unfold tP; rw [u2 c q]
      rw [ec]
    · rw [decide_eq_false (fun z => notc c q (by omega) z.1 z.2), decide_eq_false (fun z => z.1 (v4 c q (by omega)))]
  unfold em_step
  rw [hnb, hcnt]
  show (if D = 0 then none else some (pa_up D), _, _) = _
  rw [if_neg hD]
theorem em_best_new {T' : te_T} {x : Nat} (hV : tV T) (hV' : tV T') (hag : ∀ e, e < n → T' e = T e) (hnb : ∀ e, e < n → ¬ bh D w (tP T e)) (hn : n < 10) (hx : tP T' n = x) (hx0 : x ≠ 0) (hxD : pa_up x = D) (hxw : w < pa_last x) (hlate : ∀ e, n < e → e < 10 → tP T' e ≠ 0 → pa_up (tP T' e) = D → pa_last x < pa_last (tP T' e)) : em_best T' D w = some (n + 1) := by
  cases hb : em_best T' D w with
  | none => exact absurd (show w < pa_last (tP T' n) by rw [hx]; exact hxw) (em_best_none hb n hn (by rw [hx]; exact hx0) (by rw [hx]; exact hxD))
  | some s =>
    obtain ⟨c, a1, a2, a3, a4, a5, a6⟩ := em_best_some hb
    have le := a6 n hn (by rw [hx]; exact hx0) (by rw [hx]; exact hxD) (by rw [hx]; exact hxw)
    rw [hx] at le
    rcases Nat.lt_trichotomy c n with q | q | q
    · have ec : tP T' c = tP T c := by unfold tP; rw [hag c q]
      rw [ec] at a3 a4 a5
      exact absurd ((bh_child (tV_ok hV a1 a3) a3 a4).mpr a5) (hnb c q)
    · rw [a2, q]
    · have := hlate c q a1 a3 a4
      omega
theorem ur_dir (h : ur ws T n D w p m os bad) (hm : uk_mg ws n D p) (hn : uk_nm ws T D p) (h2 : rd_w ws p = 2) (hby : rd_by ws) : ur ws (fr_up T n (uk_x D (rd_w ws (p + 1)), 2, [])) (n + 1) (uk_x D (rd_w ws (p + 1))) 0 (p + 2) (m + 1) (os ++ [2, nI (rd_w ws (p + 1))]) bad := by
  have hgr := ur_gr h
  obtain ⟨hV, g2, g3, g4, g5, g6, g7, g8⟩ := h
  obtain ⟨m1, m2, m3⟩ := hm
  obtain ⟨n1, n2, n3⟩ := hn
  obtain ⟨x1, x2, x3, x4, x5⟩ := pa_new hV.2.2.2.2.2 m3 (show 1 ≤ rd_w ws (p + 1) by omega) n3
  have hV2 := uk_Vd hV m2 m3 n2 n3
  change pa_d (uk_x D (rd_w ws (p + 1))) = _ at x1
  change pa_ok (uk_x D (rd_w ws (p + 1))) = _ at x2
  change pa_up (uk_x D (rd_w ws (p + 1))) = _ at x3
  change pa_last (uk_x D (rd_w ws (p + 1))) = _ at x4
  change uk_x D (rd_w ws (p + 1)) ≠ 0 at x5
  generalize hx : uk_x D (rd_w ws (p + 1)) = x at *
  refine ⟨hV2, by omega, fun e he q => ?_, Or.inl rfl, by omega, fun T' hT' => ?_, by rw [List.length_append, g7]; rfl, uo_app g8 (fun t ht => ?_)⟩
  · rw [tP_up] at q
    by_cases c : e = n
    · rw [if_pos c] at q
      exact bh_self x2 q
    · rw [if_neg c] at q
      exact g3 e (by omega) (bh_in x2 x5 x3 (by omega) q)
  · obtain ⟨u1, u2, u3⟩ := hT'
    have en := u2 n (by omega)
    have tPn : tP T' n = x := by unfold tP; rw [en]; unfold fr_up; rw [if_pos rfl]
    have tKn : tK T' n = 2 := by unfold tK; rw [en]; unfold fr_up; rw [if_pos rfl]
    have low : ∀ e, e < n → T' e = T e := fun e he => by rw [u2 e (by omega), fr_up_n (by omega)]
    have hue : ue T T' n D w := by
      refine ⟨u1, low, fun e e1 e2 e3 => ?_⟩
      by_cases c : e = n
      · rw [c, tPn]
        exact (bh_child x2 x5 x3).mpr (by omega)
      · exact bh_in x2 x5 x3 (by omega) (u3 e (by omega) e2 e3)
    rw [em_run_snoc m _ (g6 T' hue)]
    have hb := em_best_new (w := w) hV.1 u1 low g3 m2 tPn x5 x3 (by omega) (fun e e1 e2 e3 e4 => bh_sib x2 x5 x3 (tV_ok u1 e2 e3) e3 e4 (u3 e (by omega) e2 e3))
    unfold em_step
    rw [hb]
    show (if tK T' (n + 1 - 1) = 1 then _ else _) = _
    rw [show n + 1 - 1 = n by omega, tKn, if_neg (by omega), tPn, x4]
  · have ht : t < 2 := ht
    rw [g7]
    match t, ht with
    | 0, _ => show (2 : Int32) = nI (rd_w ws p); rw [h2]; rfl
    | 1, _ => rfl
    | m + 2, ht => omega
theorem rd_bs_at {t : Nat} (ht : t < rd_w ws (p + 2)) : (rd_bs ws p).getD t 0 = nI (rd_w ws (p + 3 + t)) := by
  unfold rd_bs
  rw [fr_mapD]
  congr 1
  rw [List.getD_eq_getElem?_getD, List.getElem?_take, if_pos ht, List.getElem?_drop]
  unfold rd_w
  rw [List.getD_eq_getElem?_getD]
theorem ur_file (h : ur ws T n D w p m os bad) (hm : uk_mg ws n D p) (hn : uk_nm ws T D p) (h2 : rd_w ws p = 1) (hl : uk_ln ws T p) (he : p + 3 + rd_w ws (p + 2) ≤ ws.length) (hby : rd_by ws) : ur ws (fr_up T n (uk_x D (rd_w ws (p + 1)), 1, rd_bs ws p)) (n + 1) D (rd_w ws (p + 1)) (p + 3 + rd_w ws (p + 2)) (m + 1) (os ++ ([1, nI (rd_w ws (p + 1)), nI (rd_bs ws p).length] ++ rd_bs ws p)) bad := by
  have hgr := ur_gr h
  obtain ⟨hV, g2, g3, g4, g5, g6, g7, g8⟩ := h
  obtain ⟨m1, m2, m3⟩ := hm
  obtain ⟨n1, n2, n3⟩ := hn
  obtain ⟨x1, x2, x3, x4, x5⟩ := pa_new hV.2.2.2.2.2 m3 (show 1 ≤ rd_w ws (p + 1) by omega) n3
  have bl := rd_bs_len he
  have hV2 := uk_Vf (bs := rd_bs ws p) hV m2 m3 n2 n3 (by rw [bl]; exact hl.2.1) (rd_bs_ok hby) (by rw [bl]; exact hl.2.2)
  have bat : ∀ t, t < rd_w ws (p + 2) → (rd_bs ws p).getD t 0 = nI (rd_w ws (p + 3 + t)) := fun t ht => rd_bs_at ht
  change pa_d (uk_x D (rd_w ws (p + 1))) = _ at x1
  change pa_ok (uk_x D (rd_w ws (p + 1))) = _ at x2
  change pa_up (uk_x D (rd_w ws (p + 1))) = _ at x3
  change pa_last (uk_x D (rd_w ws (p + 1))) = _ at x4
  change uk_x D (rd_w ws (p + 1)) ≠ 0 at x5
  generalize hx : uk_x D (rd_w ws (p + 1)) = x at *
  generalize hbs : rd_bs ws p = bs at *
  refine ⟨hV2, n3, fun e he q => ?_, Or.inr ⟨n, by omega, by rw [tP_up, if_pos rfl]; exact x3, by rw [tP_up, if_pos rfl]; exact x4⟩, by omega, fun T' hT' => ?_, by rw [List.length_append, List.length_append, g7, bl]; show p + (3 + _) = _; omega, uo_app g8 (fun t ht => ?_)⟩
  · rw [tP_up] at q
    by_cases c : e = n
    · rw [if_pos c] at q
      have := (bh_child x2 x5 x3).mp q
      omega
    · rw [if_neg c] at q
      exact g3 e (by omega) (bh_mono (by omega) q)
  · obtain ⟨u1, u2, u3⟩ := hT'
    have en := u2 n (by omega)
    have tPn : tP T' n = x := by unfold tP; rw [en]; unfold fr_up; rw [if_pos rfl]
    have tKn : tK T' n = 1 := by unfold tK; rw [en]; unfold fr_up; rw [if_pos rfl]
    have tBn : tB T' n = bs := by unfold tB; rw [en]; unfold fr_up; rw [if_pos rfl]
    have low : ∀ e, e < n → T' e = T e := fun e he => by rw [u2 e (by omega), fr_up_n (by omega)]
    have hue : ue T T' n D w := by
      refine ⟨u1, low, fun e e1 e2 e3 => ?_⟩
      by_cases c : e = n
      · rw [c, tPn]
        exact (bh_child x2 x5 x3).mpr (by omega)
      · exact bh_mono (by omega) (u3 e (by omega) e2 e3)
    rw [em_run_snoc m _ (g6 T' hue)]
    have hb := em_best_new (w := w) hV.1 u1 low g3 m2 tPn x5 x3 (by omega) (fun e e1 e2 e3 e4 => by rw [x4]; exact (bh_child (tV_ok u1 e2 e3) e3 e4).mp (u3 e (by omega) e2 e3))
    unfold em_step
    rw [hb]
    show (if tK T' (n + 1 - 1) = 1 then _ else _) = _
    rw [show n + 1 - 1 = n by omega, tKn, if_pos rfl, tPn, x4]
    unfold em_file
    rw [tPn, tBn, x4]
  · rw [List.length_append, bl] at ht
    have ht : t < 3 + rd_w ws (p + 2) := ht
    rw [g7, fr_gapp]
    match t, ht with
    | 0, _ => show (1 : Int32) = nI (rd_w ws p); rw [h2]; rfl
    | 1, _ => rfl
    | 2, _ => rw [bl]; rfl
    | k + 3, ht =>
      rw [if_neg (show ¬ (k + 3 < [(1 : Int32), nI (rd_w ws (p + 1)), nI bs.length].length) from by show ¬ (k + 3 < 3); omega), show k + 3 - [(1 : Int32), nI (rd_w ws (p + 1)), nI bs.length].length = k from rfl, bat k (by omega), show p + (k + 3) = p + 3 + k by omega]
end PREFIX
def uf (ws : List Nat) (E : List Int32) (bad : Option Nat) (s : Nat) : Prop := s ≤ E.length ∧ match bad with
  | none => ∀ q, q < s → E.getD q 0 = nI (rd_w ws q)
  | some q0 => q0 < s ∧ (∀ q, q < q0 → E.getD q 0 = nI (rd_w ws q)) ∧ E.getD q0 0 ≠ nI (rd_w ws q0)
section UFIN
variable {ws : List Nat} {T : te_T} {n D w p m : Nat} {os : List Int32} {bad : Option Nat}
theorem uf_of {E r : List Int32} (hE : E = os ++ r) (h : uo ws os bad) : uf ws E bad os.length := by
  subst hE
  refine ⟨by rw [List.length_append]; omega, ?_⟩
  cases bad with
  | none =>
    intro q hq
    rw [fr_gapp, if_pos hq]
    exact h q hq
  | some q0 =>
    obtain ⟨h1, h2, h3⟩ := h
    refine ⟨h1, fun q hq => ?_, ?_⟩
    · rw [fr_gapp, if_pos (by omega)]
      exact h2 q hq
    · rw [fr_gapp, if_pos h1]
      exact h3
theorem ur_uf (h : ur ws T n D w p m os bad) : uf ws (em_out T) bad p := by
  obtain ⟨r, hr⟩ := ur_out h
  have := uf_of hr h.2.2.2.2.2.2.2
  rw [h.2.2.2.2.2.2.1] at this
  exact this
theorem ur_uf1 (h : ur ws T n D w p m os bad) (h9 : rd_w ws p = 9) : uf ws (em_out T) bad (p + 1) := by
  obtain ⟨r, hr⟩ := ur_out h
  have a := uo_app (r := [9]) h.2.2.2.2.2.2.2 (fun t ht => by
    have ht : t < 1 := ht
    match t, ht with
    | 0, _ => rw [h.2.2.2.2.2.2.1, Nat.add_zero, h9]; rfl
    | m + 1, ht => omega)
  have := uf_of (E := em_out T) (r := [nI (tr_cnt (em_c T D) 10)] ++ r) (by rw [hr, List.append_assoc]; rfl) a
  rw [List.length_append, h.2.2.2.2.2.2.1] at this
  exact this
theorem ur_uf2 (h : ur ws T n D w p m os bad) (h9 : rd_w ws p = 9) (hby : rd_by ws) : uf ws (em_out T) (uk_b ws T D p bad) (p + 2) := by
  obtain ⟨r, hr⟩ := ur_out h
  have a := uo_9 (T := T) (D := D) h.2.2.2.2.2.2.2 h.2.2.2.2.2.2.1 h9 hby
  have := uf_of (E := em_out T) (r := r) (by rw [hr, List.append_assoc]) a
  rw [List.length_append, h.2.2.2.2.2.2.1] at this
  exact this
end UFIN
