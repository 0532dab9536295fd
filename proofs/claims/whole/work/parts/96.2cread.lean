section CREAD
variable {S : tr_S} {T : te_T} {ws : List Nat}
theorem tt_ec (hV : tV T) (htt : tt S T) {d D : Nat} (hd : te_at T d D) : ∀ s, 1 ≤ s → s ≤ 10 → tr_c S d s = em_c T D s := by
  intro s h1 h2
  obtain ⟨e, rfl⟩ : ∃ e, s = e + 1 := ⟨s - 1, by omega⟩
  have := tt_c' hV htt (show e < 10 by omega) hd
  unfold em_c
  rw [show e + 1 - 1 = e by omega]
  by_cases c : tP T e ≠ 0 ∧ pa_up (tP T e) = D
  · rw [this.mpr c, decide_eq_true c]
  · rw [decide_eq_false c]
    cases hq : tr_c S d (e + 1) with
    | false => rfl
    | true => exact absurd (this.mp hq) c
theorem tt_en (hV : tV T) (htt : tt S T) {d D : Nat} (hd : te_at T d D) : ∀ s, 1 ≤ s → s ≤ 10 → tr_c S d s = true → tr_N S s = em_n T s := by
  intro s h1 h2 h3
  obtain ⟨e, rfl⟩ : ∃ e, s = e + 1 := ⟨s - 1, by omega⟩
  have := (tt_c' hV htt (show e < 10 by omega) hd).mp h3
  unfold em_n
  rw [show e + 1 - 1 = e by omega]
  exact ((htt.2 e (by omega)).2 this.1).2.1
theorem tt_gr (hV : tV T) (htt : tt S T) {d D : Nat} (hd : te_at T d D) : tr_mx (tr_c S d) (tr_N S) 10 = gr T D := tr_mx_eq 10 (tt_ec hV htt hd) (tt_en hV htt hd)
theorem tt_cnt (hV : tV T) (htt : tt S T) {d D : Nat} (hd : te_at T d D) : tr_cnt (tr_c S d) 10 = tr_cnt (em_c T D) 10 := tr_cnt_eq 10 (tt_ec hV htt hd)
theorem tr_climb_none : ∀ f, tr_climb S f none = 0 := by
  intro f
  cases f with
  | zero => rfl
  | succ f => rfl
theorem tt_up (htt : tt S T) {d D : Nat} (hd : te_at T d D) : (D = 0 ∧ d = 0 ∧ tr_P S d = none) ∨ (D ≠ 0 ∧ ∃ q, tr_P S d = some q ∧ te_at T q (pa_up D)) := by
  rcases hd with ⟨d0, D0⟩ | ⟨e, he, ed, hD0, eD⟩
  · left
    rw [d0]
    exact ⟨D0, rfl, htt.1.2.2⟩
  · right
    obtain ⟨-, -, -, q, q4, q5⟩ := (htt.2 e he).2 (by rw [eD]; exact hD0)
    rw [eD] at q5
    rw [ed]
    exact ⟨hD0, q, q4, q5⟩
theorem te_ok (hV : tV T) {d D : Nat} (hd : te_at T d D) : pa_ok D = true := by
  rcases hd with ⟨-, D0⟩ | ⟨e, he, -, hD0, eD⟩
  · rw [D0]; rfl
  · rw [← eD]; exact tV_ok hV he (by rw [eD]; exact hD0)
theorem tt_climb (hV : tV T) (htt : tt S T) : ∀ (f d D : Nat), te_at T d D → pa_d D ≤ f → tr_climb S f (tr_P S d) = pa_d D := by
  intro f
  induction f with
  | zero =>
    intro d D hd hf
    show 0 = pa_d D
    omega
  | succ f ih =>
    intro d D hd hf
    rcases tt_up htt hd with ⟨D0, d0, e⟩ | ⟨hD0, q, e, hq⟩
    · rw [e, tr_climb_none, D0]
      rfl
    · rw [e]
      have := (bh_split (te_ok hV hd) hD0).1
      show tr_climb S f (tr_P S q) + 1 = pa_d D
      rw [ih q (pa_up D) hq (by omega)]
      omega
theorem tr_cnt_min {n : Nat} : ∀ m, tr_cnt (fun s => decide (s ≤ n)) m = min m n := by
  intro m
  induction m with
  | zero => show 0 = _; omega
  | succ m ih =>
    rw [tr_cnt, ih]
    by_cases c : m + 1 ≤ n
    · rw [if_pos (decide_eq_true c)]; omega
    · rw [if_neg (fun z => c (of_decide_eq_true z))]; omega
theorem tt_used {n D : Nat} (hV : uk_V T n D) (htt : tt S T) : tr_cnt (tr_u S) 10 = n := by
  obtain ⟨v1, v2, v3, v4, v5, v6⟩ := hV
  rw [tr_cnt_eq (u := tr_u S) (w := fun s => decide (s ≤ n)) 10, tr_cnt_min]
  · omega
  · intro s h1 h2
    obtain ⟨e, rfl⟩ : ∃ e, s = e + 1 := ⟨s - 1, by omega⟩
    have := (htt.2 e (by omega)).1
    unfold tr_u
    apply decide_eq_decide.mpr
    constructor
    · intro q
      rcases Nat.lt_or_ge e n with c | c
      · omega
      · exact absurd (this.mp (v4 e c (by omega))) q
    · intro q z
      exact v3 e (by omega) (this.mpr z)
theorem tt_first {n D s : Nat} (hV : uk_V T n D) (htt : tt S T) (hn : n < 10) (h : tr_1st S s) : s = n + 1 := by
  obtain ⟨v1, v2, v3, v4, v5, v6⟩ := hV
  obtain ⟨h1, h2, h3, h4⟩ := h
  obtain ⟨e, rfl⟩ : ∃ e, s = e + 1 := ⟨s - 1, by omega⟩
  rcases Nat.lt_trichotomy e n with c | c | c
  · exact absurd ((htt.2 e (by omega)).1.mpr h3) (v3 e c)
  · rw [c]
  · exact absurd ((htt.2 n (by omega)).1.mp (v4 n (Nat.le_refl _) hn)) (h4 (n + 1) (by omega) (by omega))
theorem tr_clr_ok (h : tr_ok S) : ∀ n, n ≤ 10 → tr_ok (tr_clr S n) ∧ ∀ s, 1 ≤ s → s ≤ n → tr_K (tr_clr S n) s = 0 := by
  intro n
  induction n with
  | zero => intro _; exact ⟨h, fun s h1 h2 => absurd h2 (by omega)⟩
  | succ n ih =>
    intro hn
    obtain ⟨i1, i2⟩ := ih (by omega)
    refine ⟨tr_setK_ok i1 (by omega) (by omega), fun s h1 h2 => ?_⟩
    show tr_K (tr_setK (tr_clr S n) (n + 1) 0) s = 0
    rw [tr_setK_K i1 (by omega)]
    by_cases c : s = n + 1
    · rw [if_pos c]
    · rw [if_neg c]; exact i2 s h1 (by omega)
theorem tt_clr (h : tr_ok S) (hr : tr_rt S) : tt (tr_clr S 10) uk_T0 := by
  refine ⟨tr_rt_clr hr 10, fun e he => ⟨⟨fun _ => (tr_clr_ok h 10 (by omega)).2 (e + 1) (by omega) (by omega), fun _ => rfl⟩, fun q => absurd rfl q⟩⟩
theorem tr_ok_setB {s : Nat} {bs : List Int32} (h : tr_ok S) : tr_ok (tr_setB S s bs) := h
def uc_I (ws : List Nat) (R : Int32 × Option te_T) (p : Nat) (S : tr_S) (o : Option Nat) : Prop := match o with
  | some d => ∃ (f : Nat) (T : te_T) (n D : Nat), te_at T d D ∧ uk_V T n D ∧ tt S T ∧ tr_ok S ∧ uk ws f T n D p none = R ∧ ws.length + 2 ≤ f + p
  | none => ∃ (T : te_T) (n : Nat), tV T ∧ tr_cnt (tr_u S) 10 = n ∧ tt S T ∧ tr_ok S ∧ uk_e ws T n p none = R
theorem uc_mg {d n D p : Nat} (hV : uk_V T n D) (htt : tt S T) (hd : te_at T d D) : rd_mg S d ∧ rd_ie ws p ↔ uk_mg ws n D p := by
  have c1 := tt_used hV htt
  have c2 := tt_climb hV.1 htt 6 d D hd (pa_d_spec D).1
  unfold rd_mg uk_mg
  rw [c1, c2]
  constructor
  · intro ⟨⟨a, b⟩, c⟩
    exact ⟨c, a, by omega⟩
  · intro ⟨a, b, c⟩
    exact ⟨⟨b, by omega⟩, a⟩
theorem uc_nm {d n D p : Nat} (hV : uk_V T n D) (htt : tt S T) (hd : te_at T d D) : rd_nm ws S d p ↔ uk_nm ws T D p := by
  unfold rd_nm uk_nm
  rw [tt_gr hV.1 htt hd]
  constructor
  · intro ⟨a, b, c⟩
    exact ⟨a, by omega, c⟩
  · intro ⟨a, b, c⟩
    exact ⟨a, by omega, c⟩
theorem uc_ln {p : Nat} (htt : tt S T) : rd_ln ws S p ↔ uk_ln ws T p := by
  unfold rd_ln uk_ln
  rw [tt_fb htt]
theorem uc_step {R : Int32 × Option te_T} (hby : rd_by ws) {p d p' : Nat} {S' : tr_S} {o' : Option Nat} (hI : uc_I ws R p S (some d)) (hN : rd_N ws S d p p' S' o') (hp : p ≤ ws.length) : uc_I ws R p' S' o' := by
  obtain ⟨f, T, n, D, hd, hV, htt, hok, hR, hf⟩ := hI
  obtain ⟨f, rfl⟩ : ∃ f', f = f' + 1 := ⟨f - 1, by omega⟩
  have hd10 := te_at_le hd
  rcases hN with ⟨h1, h9, hc, ep, eS, eo⟩ | ⟨hm, h2, hn, s, hs, ep, eS, eo⟩ | ⟨hm, h2, hn, hl, he, s, hs, ep, eS, eo⟩
  · subst ep
    subst eS
    have eb : uk_b ws T D p none = none := by
      unfold uk_b
      rw [hc, tt_cnt hV.1 htt hd]
      show (if _ = _ then none else _) = none
      rw [if_pos rfl]
    rcases tt_up htt hd with ⟨D0, d0, e⟩ | ⟨hD0, q, e, hq⟩
    · rw [eo, e]
      rw [D0, uk_9r h1 h9, ← D0, eb] at hR
      exact ⟨T, n, hV.1, tt_used hV htt, htt, hok, hR⟩
    · rw [eo, e]
      rw [uk_9 h1 h9 hD0, eb] at hR
      exact ⟨f, T, n, pa_up D, hq, uk_Vu hV hD0, htt, hok, hR, by omega⟩
  · have hm2 := (uc_mg (ws := ws) (p := p) hV htt hd).mp ⟨hm, Or.inr h2⟩
    have hn2 := (uc_nm (ws := ws) (p := p) hV htt hd).mp hn
    have es := tt_first hV htt hm2.2.1 hs
    subst es
    rw [eS, eo]
    rw [uk_d hm2 hn2 h2] at hR
    have hV2 := uk_Vd hV hm2.2.1 hm2.2.2 hn2.2.1 hn2.2.2
    obtain ⟨x1, x2, x3, x4, x5⟩ := pa_new hV.2.2.2.2.2 hm2.2.2 (show 1 ≤ rd_w ws (p + 1) by have := hn2.2.1; omega) hn2.2.2
    have ht := tt_create (p := uk_x D (rd_w ws (p + 1))) (v := 2) hok htt hm2.2.1 (hV.2.2.2.1 n (Nat.le_refl _) hm2.2.1) x5 (Or.inr rfl) (d := d) (by show te_at T d (pa_up (D + _)); rw [x3]; exact hd)
    rw [show pa_last (uk_x D (rd_w ws (p + 1))) = rd_w ws (p + 1) from x4] at ht
    refine ⟨f, _, n + 1, _, Or.inr ⟨n, hm2.2.1, rfl, x5, ?_⟩, hV2, ht, tr_add_ok hok (by have := hm2.2.1; omega) hd10 hn2.2.2 (by omega), by rw [ep]; exact hR, by omega⟩
    rw [tP_up, if_pos rfl]
    rfl
  · have hm2 := (uc_mg (ws := ws) (p := p) hV htt hd).mp ⟨hm, Or.inl h2⟩
    have hn2 := (uc_nm (ws := ws) (p := p) hV htt hd).mp hn
    have hl2 := (uc_ln (ws := ws) (p := p) htt).mp hl
    have es := tt_first hV htt hm2.2.1 hs
    subst es
    rw [eS, eo]
    rw [uk_fl hm2 hn2 h2 hl2 he] at hR
    have bl := rd_bs_len he
    have hV2 := uk_Vf (bs := rd_bs ws p) hV hm2.2.1 hm2.2.2 hn2.2.1 hn2.2.2 (by rw [bl]; exact hl2.2.1) (rd_bs_ok hby) (by rw [bl]; exact hl2.2.2)
    obtain ⟨x1, x2, x3, x4, x5⟩ := pa_new hV.2.2.2.2.2 hm2.2.2 (show 1 ≤ rd_w ws (p + 1) by have := hn2.2.1; omega) hn2.2.2
    have ht := tt_create (p := uk_x D (rd_w ws (p + 1))) (v := 1) hok htt hm2.2.1 (hV.2.2.2.1 n (Nat.le_refl _) hm2.2.1) x5 (Or.inl rfl) (d := d) (by show te_at T d (pa_up (D + _)); rw [x3]; exact hd)
    rw [show pa_last (uk_x D (rd_w ws (p + 1))) = rd_w ws (p + 1) from x4] at ht
    have ht2 := tt_setB (p := uk_x D (rd_w ws (p + 1))) (e := n) (bs := rd_bs ws p) ht hm2.2.1 (by rw [tP_up, if_pos rfl]) x5 (by rw [tK_up, if_pos rfl])
    rw [mr_up_up] at ht2
    refine ⟨f, _, n + 1, D, te_at_up (Or.inl (hV.2.2.2.1 n (Nat.le_refl _) hm2.2.1)) hd, hV2, ht2, tr_ok_setB (tr_add_ok hok (by have := hm2.2.1; omega) hd10 hn2.2.2 (by omega)), by rw [ep]; exact hR, by omega⟩
theorem uc_fault {R : Int32 × Option te_T} {p d q : Nat} (hI : uc_I ws R p S (some d)) (hF : rd_F ws S d p q) (hp : p ≤ ws.length) : R = (-1 - nI q, none) := by
  obtain ⟨f, T, n, D, hd, hV, htt, hok, hR, hf⟩ := hI
  obtain ⟨f, rfl⟩ : ∃ f', f = f' + 1 := ⟨f - 1, by omega⟩
  rcases hF with ⟨eq, hm, h9⟩ | ⟨eq, h0, h9, hc⟩ | ⟨eq, hm, hi, hn⟩ | ⟨eq, hm, h2, hn, hl⟩ | ⟨eq, hm, h2, hn, hl, he⟩
  · rw [uk_f0 h9 (fun z => hm ((uc_mg hV htt hd).mpr z))] at hR
    rw [← hR, eq]
    rfl
  · by_cases c1 : p + 1 < ws.length
    · have eb : uk_b ws T D p none = some (p + 1) := by
        unfold uk_b
        show (if _ = _ then none else _) = _
        rw [if_neg (fun z => hc ⟨c1, by rw [z, tt_cnt hV.1 htt hd]⟩)]
      by_cases cD : D = 0
      · rw [cD, uk_9r c1 h9, ← cD, eb] at hR
        rw [← hR, eq]
        rfl
      · rw [uk_9 c1 h9 cD, eb, uk_bad] at hR
        rw [← hR, eq]
    · rw [uk_9f h0 c1 h9] at hR
      rw [← hR, eq]
      rfl
  · rw [uk_f1 ((uc_mg hV htt hd).mp ⟨hm, hi⟩) (fun z => hn ((uc_nm hV htt hd).mpr z))] at hR
    rw [← hR, eq]
    rfl
  · rw [uk_f2 ((uc_mg hV htt hd).mp ⟨hm, Or.inl h2⟩) ((uc_nm hV htt hd).mp hn) h2 (fun z => hl ((uc_ln htt).mpr z))] at hR
    rw [← hR, eq]
    rfl
  · rw [uk_f3 ((uc_mg hV htt hd).mp ⟨hm, Or.inl h2⟩) ((uc_nm hV htt hd).mp hn) h2 ((uc_ln htt).mp hl) (by omega)] at hR
    rw [← hR, eq]
    rfl
end CREAD
section CREAD2
variable {xs : List Int32} {h : pm_H} {b : Nat} {z : cz_N} {im : Nat → dp_P} {st ca : dp_K} {sd : Nat → List Int32 × dp_P} {ws ta : List Nat} {f : Bool} {S : tr_S} {Q : Option Value → pm_H → Prop}
theorem ct_D_unpackT (hb : dp_R h b z im st ca sd ws ta f S) (hS : tr_rt S) (hw : rd_by ws) (hl : ws.length ≤ 120)
    (k0 : ∀ (v : Int32) (h' : pm_H), uk ws 200 uk_T0 0 0 0 none = (v, none) → dp_R h' b z im st ca sd ws ta f S → fr_al b 4 h h' → Q (some (.int v)) h')
    (k1 : ∀ (T1 : te_T) (S1 : tr_S) (n : Nat) (h' : pm_H), uk ws 200 uk_T0 0 0 0 none = (nI n, some T1) → tV T1 → tt S1 T1 → dp_R h' b z im st ca sd ws ta (!f) S1 → fr_al b 4 h h' → Q (some (.int (nI n))) h') :
    pm_X xs 6 mD_unpack [.ref b] h Q := by
  refine ct_D_unpack (I := uc_I ws (uk ws 200 uk_T0 0 0 0 none)) hb hS hw (fun S' hok hrt => ?_) (fun p S d p' S' o' => uc_step hw) (fun p S o hI => ?_) (fun p S o hI => ?_) (fun p q d S1 h' hI hF hp hd ha => ?_) (fun p S1 h' hI hp hd ha => ?_) (fun S1 h' hI hd ha => ?_)
  · exact ⟨200, uk_T0, 0, 0, Or.inl ⟨rfl, rfl⟩, uk_V0, tt_clr hok hrt, (tr_clr_ok hok 10 (by omega)).1, rfl, by omega⟩
  · cases o with
    | none =>
      obtain ⟨T, n, hV, -, htt, -, -⟩ := hI
      refine ⟨?_, fun e q => by cases q⟩
      rw [tt_fb htt]
      exact hV.2.2
    | some d =>
      obtain ⟨f, T, n, D, hd, hV, htt, hok, hR, hf⟩ := hI
      refine ⟨?_, fun e q => by cases q; exact te_at_le hd⟩
      rw [tt_fb htt]
      exact hV.1.2.2
  · cases o with
    | none =>
      obtain ⟨T, n, hV, -, htt, -, -⟩ := hI
      exact htt.1
    | some d =>
      obtain ⟨f, T, n, D, hd, hV, htt, hok, hR, hf⟩ := hI
      exact htt.1
  · exact k0 _ h' (uc_fault hI hF hp) hd ha
  · obtain ⟨T, n, hV, -, htt, -, hR⟩ := hI
    unfold uk_e at hR
    have hR : (if p < ws.length then ((-1 - nI p, none) : Int32 × Option te_T) else (nI n, some T)) = _ := hR
    rw [if_pos hp] at hR
    exact k0 _ h' hR.symm hd ha
  · obtain ⟨T, n, hV, hn, htt, -, hR⟩ := hI
    unfold uk_e at hR
    have hR : (if ws.length < ws.length then ((-1 - nI ws.length, none) : Int32 × Option te_T) else (nI n, some T)) = _ := hR
    rw [if_neg (Nat.lt_irrefl _)] at hR
    rw [hn]
    exact k1 T S1 n h' hR.symm hV htt hd ha
end CREAD2
