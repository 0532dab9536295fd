theorem pa_new {D w : Nat} (hD : pa_ok D = true) (hd : pa_d D ≤ 5) (h1 : 1 ≤ w) (h31 : w ≤ 31) : pa_d (D + w * 2 ^ (5 * pa_d D)) = pa_d D + 1 ∧ pa_ok (D + w * 2 ^ (5 * pa_d D)) = true ∧ pa_up (D + w * 2 ^ (5 * pa_d D)) = D ∧ pa_last (D + w * 2 ^ (5 * pa_d D)) = w ∧ D + w * 2 ^ (5 * pa_d D) ≠ 0 := by
  have hl := pa_ok_lt hD
  have hpos := pa_pos (pa_d D)
  have hm : (D + w * 2 ^ (5 * pa_d D)) % 2 ^ (5 * pa_d D) = D := by rw [Nat.add_mul_mod_self_right, Nat.mod_eq_of_lt hl]
  have hq : (D + w * 2 ^ (5 * pa_d D)) / 2 ^ (5 * pa_d D) = w := by rw [Nat.add_mul_div_right _ _ hpos, Nat.div_eq_of_lt hl, Nat.zero_add]
  have hn : ∀ i, i < pa_d D → pa_n (D + w * 2 ^ (5 * pa_d D)) i = pa_n D i := by
    intro i hi
    have := pa_n_mod (p := D + w * 2 ^ (5 * pa_d D)) (k := pa_d D) (i := i)
    rw [hm, if_pos hi] at this
    exact this.symm
  have hk : pa_n (D + w * 2 ^ (5 * pa_d D)) (pa_d D) = w := by
    unfold pa_n
    rw [hq, Nat.mod_eq_of_lt (by omega)]
  have hlt : D + w * 2 ^ (5 * pa_d D) < 2 ^ (5 * (pa_d D + 1)) := by
    have e : 2 ^ (5 * (pa_d D + 1)) = 32 * 2 ^ (5 * pa_d D) := by rw [show 5 * (pa_d D + 1) = 5 + 5 * pa_d D by omega, Nat.pow_add]
    rw [e]
    have a : w * 2 ^ (5 * pa_d D) ≤ 31 * 2 ^ (5 * pa_d D) := Nat.mul_le_mul_right _ h31
    have b : 32 * 2 ^ (5 * pa_d D) = 31 * 2 ^ (5 * pa_d D) + 2 ^ (5 * pa_d D) := by rw [← Nat.succ_mul]
    omega
  have hdx : pa_d (D + w * 2 ^ (5 * pa_d D)) = pa_d D + 1 := by
    apply pa_d_is (by omega)
    · intro i hi
      by_cases c : i = pa_d D
      · rw [c, hk]; omega
      · rw [hn i (by omega)]
        exact (pa_d_spec D).2.1 i (by omega)
    · right
      unfold pa_n
      rw [Nat.div_eq_of_lt hlt]
  refine ⟨hdx, pa_ok_of hdx hlt, ?_, ?_, ?_⟩
  · unfold pa_up
    rw [hdx, show pa_d D + 1 - 1 = pa_d D by omega, hm]
  · unfold pa_last
    rw [hdx, show pa_d D + 1 - 1 = pa_d D by omega, hk]
  · have : 1 * 1 ≤ w * 2 ^ (5 * pa_d D) := Nat.mul_le_mul h1 hpos
    omega
theorem tr_mx_spec {f : Nat → Bool} {g : Nat → Nat} : ∀ n, (∀ s, 1 ≤ s → s ≤ n → f s = true → g s ≤ tr_mx f g n) ∧ (tr_mx f g n = 0 ∨ ∃ s, 1 ≤ s ∧ s ≤ n ∧ f s = true ∧ g s = tr_mx f g n) := by
  intro n
  induction n with
  | zero => exact ⟨fun s h1 h2 => absurd h2 (by omega), Or.inl rfl⟩
  | succ n ih =>
    obtain ⟨i1, i2⟩ := ih
    by_cases c : f (n + 1) = true ∧ tr_mx f g n < g (n + 1)
    · rw [tr_mx, if_pos c]
      refine ⟨fun s h1 h2 h3 => ?_, Or.inr ⟨n + 1, by omega, by omega, c.1, rfl⟩⟩
      by_cases cs : s = n + 1
      · rw [cs]; exact Nat.le_refl _
      · have := i1 s h1 (by omega) h3
        omega
    · rw [tr_mx, if_neg c]
      refine ⟨fun s h1 h2 h3 => ?_, ?_⟩
      · by_cases cs : s = n + 1
        · subst cs
          exact Nat.le_of_not_lt (fun z => c ⟨h3, z⟩)
        · exact i1 s h1 (by omega) h3
      · rcases i2 with q | ⟨s, h1, h2, h3, h4⟩
        · exact Or.inl q
        · exact Or.inr ⟨s, h1, by omega, h3, h4⟩
theorem tr_mx_eq {f f' : Nat → Bool} {g g' : Nat → Nat} : ∀ n, (∀ s, 1 ≤ s → s ≤ n → f s = f' s) → (∀ s, 1 ≤ s → s ≤ n → f s = true → g s = g' s) → tr_mx f g n = tr_mx f' g' n := by
  intro n
  induction n with
  | zero => intro _ _; rfl
  | succ n ih =>
    intro hf hg
    have e := ih (fun s h1 h2 => hf s h1 (by omega)) (fun s h1 h2 => hg s h1 (by omega))
    have f1 := hf (n + 1) (by omega) (by omega)
    rw [tr_mx, tr_mx, ← e, ← f1]
    by_cases c : f (n + 1) = true
    · rw [hg (n + 1) (by omega) (by omega) c]
    · rw [if_neg (fun z => c z.1), if_neg (fun z => c z.1)]
def gr (T : te_T) (D : Nat) : Nat := tr_mx (em_c T D) (em_n T) 10
def uk_T0 : te_T := fun _ => (0, 0, [])
def uk_x (D w : Nat) : Nat := D + w * 2 ^ (5 * pa_d D)
def uk_f (bad : Option Nat) (q : Nat) : Int32 × Option te_T := (-1 - nI (bad.getD q), none)
def uk_b (ws : List Nat) (T : te_T) (D p : Nat) (bad : Option Nat) : Option Nat := match bad with
  | some q => some q
  | none => if rd_w ws (p + 1) = tr_cnt (em_c T D) 10 then none else some (p + 1)
def uk_e (ws : List Nat) (T : te_T) (n p : Nat) (bad : Option Nat) : Int32 × Option te_T := match bad with
  | some q => (-1 - nI q, none)
  | none => if p < ws.length then (-1 - nI p, none) else (nI n, some T)
def uk_nm (ws : List Nat) (T : te_T) (D p : Nat) : Prop := p + 1 < ws.length ∧ gr T D < rd_w ws (p + 1) ∧ rd_w ws (p + 1) ≤ 31
def uk_ln (ws : List Nat) (T : te_T) (p : Nat) : Prop := p + 2 < ws.length ∧ rd_w ws (p + 2) ≤ 16 ∧ te_fb T + rd_w ws (p + 2) ≤ 80
def uk_mg (ws : List Nat) (n D p : Nat) : Prop := rd_ie ws p ∧ n < 10 ∧ pa_d D ≤ 5
noncomputable def uk (ws : List Nat) : Nat → te_T → Nat → Nat → Nat → Option Nat → Int32 × Option te_T
  | 0, _, _, _, p, bad => uk_f bad p
  | f + 1, T, n, D, p, bad =>
    haveI := Classical.propDecidable
    if p < ws.length ∧ rd_w ws p = 9 then
      if p + 1 < ws.length then
        if D = 0 then uk_e ws T n (p + 2) (uk_b ws T D p bad) else uk ws f T n (pa_up D) (p + 2) (uk_b ws T D p bad)
      else uk_f bad (p + 1)
    else if uk_mg ws n D p then
      if uk_nm ws T D p then
        if rd_w ws p = 2 then uk ws f (fr_up T n (uk_x D (rd_w ws (p + 1)), 2, [])) (n + 1) (uk_x D (rd_w ws (p + 1))) (p + 2) bad
        else if uk_ln ws T p then
          if p + 3 + rd_w ws (p + 2) ≤ ws.length then uk ws f (fr_up T n (uk_x D (rd_w ws (p + 1)), 1, rd_bs ws p)) (n + 1) D (p + 3 + rd_w ws (p + 2)) bad else uk_f bad ws.length
        else uk_f bad (p + 2)
      else uk_f bad (p + 1)
    else uk_f bad p
section UK
variable {ws : List Nat} {T : te_T} {f n D p : Nat} {bad : Option Nat}
theorem uk_9 (h1 : p + 1 < ws.length) (h9 : rd_w ws p = 9) (hD : D ≠ 0) : uk ws (f + 1) T n D p bad = uk ws f T n (pa_up D) (p + 2) (uk_b ws T D p bad) := by
  rw [uk]
  rw [if_pos ⟨by omega, h9⟩, if_pos h1, if_neg hD]
theorem uk_9r (h1 : p + 1 < ws.length) (h9 : rd_w ws p = 9) : uk ws (f + 1) T n 0 p bad = uk_e ws T n (p + 2) (uk_b ws T 0 p bad) := by
  rw [uk]
  rw [if_pos ⟨by omega, h9⟩, if_pos h1, if_pos rfl]
theorem uk_9f (h0 : p < ws.length) (h1 : ¬ p + 1 < ws.length) (h9 : rd_w ws p = 9) : uk ws (f + 1) T n D p bad = uk_f bad (p + 1) := by
  rw [uk]
  rw [if_pos ⟨h0, h9⟩, if_neg h1]
theorem uk_d (hm : uk_mg ws n D p) (hn : uk_nm ws T D p) (h2 : rd_w ws p = 2) : uk ws (f + 1) T n D p bad = uk ws f (fr_up T n (uk_x D (rd_w ws (p + 1)), 2, [])) (n + 1) (uk_x D (rd_w ws (p + 1))) (p + 2) bad := by
  rw [uk]
  rw [if_neg (fun z => by omega), if_pos hm, if_pos hn, if_pos h2]
theorem uk_fl (hm : uk_mg ws n D p) (hn : uk_nm ws T D p) (h2 : rd_w ws p = 1) (hl : uk_ln ws T p) (he : p + 3 + rd_w ws (p + 2) ≤ ws.length) : uk ws (f + 1) T n D p bad = uk ws f (fr_up T n (uk_x D (rd_w ws (p + 1)), 1, rd_bs ws p)) (n + 1) D (p + 3 + rd_w ws (p + 2)) bad := by
  rw [uk]
  rw [if_neg (fun z => by omega), if_pos hm, if_pos hn, if_neg (by omega), if_pos hl, if_pos he]
theorem uk_f0 (h9 : ¬ (p < ws.length ∧ rd_w ws p = 9)) (hm : ¬ uk_mg ws n D p) : uk ws (f + 1) T n D p bad = uk_f bad p := by
  rw [uk]
  rw [if_neg h9, if_neg hm]
theorem uk_f1 (hm : uk_mg ws n D p) (hn : ¬ uk_nm ws T D p) : uk ws (f + 1) T n D p bad = uk_f bad (p + 1) := by
  have := hm.1
  rw [uk]
  rw [if_neg (fun z => by unfold rd_ie at this; omega), if_pos hm, if_neg hn]
theorem uk_f2 (hm : uk_mg ws n D p) (hn : uk_nm ws T D p) (h2 : rd_w ws p = 1) (hl : ¬ uk_ln ws T p) : uk ws (f + 1) T n D p bad = uk_f bad (p + 2) := by
  rw [uk]
  rw [if_neg (fun z => by omega), if_pos hm, if_pos hn, if_neg (by omega), if_neg hl]
theorem uk_f3 (hm : uk_mg ws n D p) (hn : uk_nm ws T D p) (h2 : rd_w ws p = 1) (hl : uk_ln ws T p) (he : ¬ p + 3 + rd_w ws (p + 2) ≤ ws.length) : uk ws (f + 1) T n D p bad = uk_f bad ws.length := by
  rw [uk]
  rw [if_neg (fun z => by omega), if_pos hm, if_pos hn, if_neg (by omega), if_pos hl, if_neg he]
theorem uk_bad {q : Nat} : ∀ (f : Nat) (T : te_T) (n D p : Nat), uk ws f T n D p (some q) = (-1 - nI q, none) := by
  intro f
  induction f with
  | zero => intro T n D p; rfl
  | succ f ih =>
    intro T n D p
    by_cases c9 : p < ws.length ∧ rd_w ws p = 9
    · by_cases c1 : p + 1 < ws.length
      · by_cases cD : D = 0
        · subst cD
          rw [uk_9r c1 c9.2]
          rfl
        · rw [uk_9 c1 c9.2 cD]
          exact ih _ _ _ _
      · rw [uk_9f c9.1 c1 c9.2]
        rfl
    · by_cases cm : uk_mg ws n D p
      · by_cases cn : uk_nm ws T D p
        · rcases cm.1 with c1 | c2
          · by_cases cl : uk_ln ws T p
            · by_cases ce : p + 3 + rd_w ws (p + 2) ≤ ws.length
              · rw [uk_fl cm cn c1 cl ce]
                exact ih _ _ _ _
              · rw [uk_f3 cm cn c1 cl ce]
                rfl
            · rw [uk_f2 cm cn c1 cl]
              rfl
          · rw [uk_d cm cn c2]
            exact ih _ _ _ _
        · rw [uk_f1 cm cn]
          rfl
      · rw [uk_f0 c9 cm]
        rfl
end UK
def uk_V (T : te_T) (n D : Nat) : Prop := tV T ∧ n ≤ 10 ∧ (∀ e, e < n → tP T e ≠ 0) ∧ (∀ e, n ≤ e → e < 10 → tP T e = 0) ∧ te_dir T D ∧ pa_ok D = true
theorem uk_V0 : uk_V uk_T0 0 0 := by
  refine ⟨⟨fun e _ h => absurd rfl h, fun e e' _ _ h => absurd rfl h, ?_⟩, by omega, fun e h => absurd h (by omega), fun _ _ _ => rfl, Or.inl rfl, rfl⟩
  have : te_fb uk_T0 = 0 := by
    rw [te_fb_s]
    rfl
  omega
theorem gr_le {T : te_T} {D e : Nat} (he : e < 10) (h0 : tP T e ≠ 0) (hD : pa_up (tP T e) = D) : pa_last (tP T e) ≤ gr T D := by
  have := (tr_mx_spec (f := em_c T D) (g := em_n T) 10).1 (e + 1) (by omega) (by omega) (decide_eq_true (by rw [show e + 1 - 1 = e by omega]; exact ⟨h0, hD⟩))
  unfold em_n at this
  rw [show e + 1 - 1 = e by omega] at this
  exact this
theorem gr_31 {T : te_T} {D : Nat} (hV : tV T) : gr T D ≤ 31 := by
  rcases (tr_mx_spec (f := em_c T D) (g := em_n T) 10).2 with q | ⟨s, h1, h2, h3, h4⟩
  · show tr_mx _ _ _ ≤ 31
    omega
  · have b := of_decide_eq_true h3
    have := (pa_split (tV_ok hV (show s - 1 < 10 by omega) b.1) b.1).2.2.2.2
    show tr_mx _ _ _ ≤ 31
    rw [← h4]
    exact this
theorem uk_cr {T : te_T} {n D w v : Nat} (hV : uk_V T n D) (hn : n < 10) (hd : pa_d D ≤ 5) (hw : gr T D < w) (h31 : w ≤ 31) (hv : v = 1 ∨ v = 2) : cr_ok T (uk_x D w) (nI v) v n := by
  obtain ⟨v1, v2, v3, v4, v5, v6⟩ := hV
  obtain ⟨x1, x2, x3, x4, x5⟩ := pa_new v6 hd (show 1 ≤ w by omega) h31
  refine ⟨x2, x5, hv, rfl, fun e he q => ?_, ?_, hn, v4 n (Nat.le_refl _) hn, fun j hj => v3 j hj⟩
  · have h0 : tP T e ≠ 0 := by rw [q]; exact x5
    have := gr_le (D := D) he h0 (by rw [q]; exact x3)
    rw [q] at this
    unfold uk_x at this
    rw [x4] at this
    omega
  · show te_dir T (pa_up (D + w * 2 ^ (5 * pa_d D)))
    rw [x3]
    exact v5
theorem te_dir_new {T : te_T} {n x D : Nat} {q : Nat × Nat × List Int32} (h0 : tP T n = 0) (h : te_dir T D) : te_dir (fr_up T n q) D := te_dir_up h (Or.inl h0)
theorem uk_Vd {T : te_T} {n D w : Nat} (hV : uk_V T n D) (hn : n < 10) (hd : pa_d D ≤ 5) (hw : gr T D < w) (h31 : w ≤ 31) : uk_V (fr_up T n (uk_x D w, 2, [])) (n + 1) (uk_x D w) := by
  have hc := uk_cr (v := 2) hV hn hd hw h31 (Or.inr rfl)
  obtain ⟨v1, v2, v3, v4, v5, v6⟩ := hV
  obtain ⟨x1, x2, x3, x4, x5⟩ := pa_new v6 hd (show 1 ≤ w by omega) h31
  refine ⟨tV_create v1 hc, by omega, fun e he => ?_, fun e he h10 => ?_, Or.inr ⟨n, hn, ?_, ?_⟩, x2⟩
  · rw [tP_up]
    by_cases c : e = n
    · rw [if_pos c]; exact x5
    · rw [if_neg c]; exact v3 e (by omega)
  · rw [tP_up, if_neg (by omega)]
    exact v4 e (by omega) h10
  · rw [tP_up, if_pos rfl]
  · rw [tK_up, if_pos rfl]
theorem rd_bs_ok {ws : List Nat} {p : Nat} (hb : rd_by ws) : bt_ok (rd_bs ws p) := by
  intro x hx
  unfold rd_bs at hx
  obtain ⟨y, hy, rfl⟩ := List.mem_map.mp hx
  exact fr_255 y (hb y (List.mem_of_mem_drop (List.mem_of_mem_take hy)))
theorem rd_bs_len {ws : List Nat} {p : Nat} (h : p + 3 + rd_w ws (p + 2) ≤ ws.length) : (rd_bs ws p).length = rd_w ws (p + 2) := by
  unfold rd_bs
  rw [List.length_map, List.length_take, List.length_drop]
  omega
theorem te_fb_file {T : te_T} {n x : Nat} {bs : List Int32} (hn : n < 10) (h0 : tP T n = 0) (hx : x ≠ 0) : te_fb (fr_up T n (x, 1, bs)) = te_fb T + bs.length := by
  have := te_s_up (T := T) (e := n) (x := (x, 1, bs)) 10 hn
  rw [te_fb_s, te_fb_s]
  have a : te_c T n = 0 := by unfold te_c; rw [if_neg (fun z => z.1 h0)]
  have b : te_c (fr_up T n (x, 1, bs)) n = bs.length := by
    unfold te_c
    rw [tP_up, tK_up, tB_up, if_pos rfl, if_pos rfl, if_pos rfl, if_pos ⟨hx, rfl⟩]
  omega
theorem te_fb_dir {T : te_T} {n x : Nat} (hn : n < 10) (h0 : tP T n = 0) : te_fb (fr_up T n (x, 2, [])) = te_fb T := by
  have := te_s_up (T := T) (e := n) (x := (x, 2, [])) 10 hn
  rw [te_fb_s, te_fb_s]
  have a : te_c T n = 0 := by unfold te_c; rw [if_neg (fun z => z.1 h0)]
  have b : te_c (fr_up T n (x, 2, [])) n = 0 := by
    unfold te_c
    rw [tK_up, if_pos rfl, if_neg (fun z => absurd z.2 (by show ¬ (2 : Nat) = 1; omega))]
  omega
theorem uk_Vf {T : te_T} {n D w : Nat} {bs : List Int32} (hV : uk_V T n D) (hn : n < 10) (hd : pa_d D ≤ 5) (hw : gr T D < w) (h31 : w ≤ 31) (h16 : bs.length ≤ 16) (hok : bt_ok bs) (h80 : te_fb T + bs.length ≤ 80) : uk_V (fr_up T n (uk_x D w, 1, bs)) (n + 1) D := by
  have hc := uk_cr (v := 1) hV hn hd hw h31 (Or.inl rfl)
  obtain ⟨v1, v2, v3, v4, v5, v6⟩ := hV
  obtain ⟨x1, x2, x3, x4, x5⟩ := pa_new v6 hd (show 1 ≤ w by omega) h31
  have a := tV_create v1 hc
  have f0 := te_fb_file (bs := []) hn (v4 n (Nat.le_refl _) hn) (show uk_x D w ≠ 0 from x5)
  have b := tV_file (e := n) (p := uk_x D w) (bs := bs) a ⟨x2, x5, hn, by rw [tP_up, if_pos rfl], by rw [tK_up, if_pos rfl]⟩ h16 hok (by rw [f0]; show te_fb T + 0 + bs.length ≤ _; omega)
  rw [mr_up_up] at b
  refine ⟨b, by omega, fun e he => ?_, fun e he h10 => ?_, te_dir_new (x := 0) (v4 n (Nat.le_refl _) hn) v5, v6⟩
  · rw [tP_up]
    by_cases c : e = n
    · rw [if_pos c]; exact x5
    · rw [if_neg c]; exact v3 e (by omega)
  · rw [tP_up, if_neg (by omega)]
    exact v4 e (by omega) h10
theorem uk_Vu {T : te_T} {n D : Nat} (hV : uk_V T n D) (hD : D ≠ 0) : uk_V T n (pa_up D) := by
  obtain ⟨v1, v2, v3, v4, v5, v6⟩ := hV
  rcases v5 with v5 | ⟨e, he, e1, e2⟩
  · exact absurd v5 hD
  · have h0 : tP T e ≠ 0 := by rw [e1]; exact hD
    have := (v1.1 e he h0).2.2.2.2
    rw [e1] at this
    exact ⟨v1, v2, v3, v4, this, (pa_split v6 hD).2.2.1⟩
