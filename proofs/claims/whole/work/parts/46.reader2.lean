def rd_nm (ws : List Nat) (S : tr_S) (d p : Nat) : Prop := p + 1 < ws.length ∧ tr_mx (tr_c S d) (tr_N S) 10 + 1 ≤ rd_w ws (p + 1) ∧ rd_w ws (p + 1) ≤ 31
def rd_ln (ws : List Nat) (S : tr_S) (p : Nat) : Prop := p + 2 < ws.length ∧ rd_w ws (p + 2) ≤ 16 ∧ tr_fb S + rd_w ws (p + 2) ≤ 80
def rd_F (ws : List Nat) (S : tr_S) (d p q : Nat) : Prop :=
  (q = p ∧ ¬ (rd_mg S d ∧ rd_ie ws p) ∧ ¬ (p < ws.length ∧ rd_w ws p = 9)) ∨
  (q = p + 1 ∧ p < ws.length ∧ rd_w ws p = 9 ∧ ¬ (p + 1 < ws.length ∧ rd_w ws (p + 1) = tr_cnt (tr_c S d) 10)) ∨
  (q = p + 1 ∧ rd_mg S d ∧ rd_ie ws p ∧ ¬ rd_nm ws S d p) ∨
  (q = p + 2 ∧ rd_mg S d ∧ rd_w ws p = 1 ∧ rd_nm ws S d p ∧ ¬ rd_ln ws S p) ∨
  (q = ws.length ∧ rd_mg S d ∧ rd_w ws p = 1 ∧ rd_nm ws S d p ∧ rd_ln ws S p ∧ ws.length < p + 3 + rd_w ws (p + 2))
def tr_1st (S : tr_S) (s : Nat) : Prop := 1 ≤ s ∧ s ≤ 10 ∧ tr_K S s = 0 ∧ ∀ t, 1 ≤ t → t < s → tr_K S t ≠ 0
def rd_bs (ws : List Nat) (p : Nat) : List Int32 := ((ws.drop (p + 3)).take (rd_w ws (p + 2))).map nI
def rd_N (ws : List Nat) (S : tr_S) (d p p' : Nat) (S' : tr_S) (o' : Option Nat) : Prop :=
  (p + 1 < ws.length ∧ rd_w ws p = 9 ∧ rd_w ws (p + 1) = tr_cnt (tr_c S d) 10 ∧ p' = p + 2 ∧ S' = S ∧ o' = tr_P S d) ∨
  (rd_mg S d ∧ rd_w ws p = 2 ∧ rd_nm ws S d p ∧ ∃ s, tr_1st S s ∧ p' = p + 2 ∧ S' = tr_add S s d (rd_w ws (p + 1)) 2 ∧ o' = some s) ∨
  (rd_mg S d ∧ rd_w ws p = 1 ∧ rd_nm ws S d p ∧ rd_ln ws S p ∧ p + 3 + rd_w ws (p + 2) ≤ ws.length ∧ ∃ s, tr_1st S s ∧ p' = p + 3 + rd_w ws (p + 2) ∧ S' = tr_setB (tr_add S s d (rd_w ws (p + 1)) 1) s (rd_bs ws p) ∧ o' = some d)
def rd_fr (r t : Nat) (h h' : pm_H) : Prop := h'.2 = h.2 ∧ h'.1.length = h.1.length ∧ ∀ k, k ≠ r → (k < t ∨ t + 27 ≤ k) → h'.1[k]? = h.1[k]?
theorem rd_fr.rf {r t : Nat} {h : pm_H} : rd_fr r t h h := ⟨rfl, rfl, fun _ _ _ => rfl⟩
theorem rd_fr.tr {r t : Nat} {h h1 h2 : pm_H} (a : rd_fr r t h h1) (b : rd_fr r t h1 h2) : rd_fr r t h h2 := ⟨b.1.trans a.1, b.2.1.trans a.2.1, fun k h1 h2 => (b.2.2 k h1 h2).trans (a.2.2 k h1 h2)⟩
theorem rd_fr.r {r t : Nat} {h h1 : pm_H} (a : fr_ag r (r + 1) h h1) : rd_fr r t h h1 := ⟨a.1, a.2.1, fun k h1 _ => a.2.2 k (by omega)⟩
theorem rd_fr.t {r t : Nat} {h h1 : pm_H} (a : fr_ag t (t + 27) h h1) : rd_fr r t h h1 := ⟨a.1, a.2.1, fun k _ h2 => a.2.2 k (by omega)⟩
theorem tr_sm_eq {f f' : Nat → Bool} {g g' : Nat → Nat} : ∀ n, (∀ s, 1 ≤ s → s ≤ n → (if f s = true then g s else 0) = (if f' s = true then g' s else 0)) → tr_sm f g n = tr_sm f' g' n := by
  intro n
  induction n with
  | zero => intro _; rfl
  | succ n ih =>
    intro hs
    show _ + _ = _ + _
    rw [ih (fun s h1 h2 => hs s h1 (by omega)), hs (n + 1) (by omega) (Nat.le_refl _)]
theorem tr_cnt_all {f : Nat → Bool} : ∀ n, (∀ s, 1 ≤ s → s ≤ n → f s = true) → tr_cnt f n = n := by
  intro n
  induction n with
  | zero => intro _; rfl
  | succ n ih =>
    intro hs
    show _ + _ = _
    rw [ih (fun s h1 h2 => hs s h1 (by omega)), hs (n + 1) (by omega) (Nat.le_refl _)]
    rfl
theorem tr_add_K {S : tr_S} {s d w v t : Nat} (h : tr_ok S) (hs : s < 11) : tr_K (tr_add S s d w v) t = if t = s then v else tr_K S t := fr_setD (by rw [h.1]; exact hs)
theorem tr_add_N {S : tr_S} {s d w v t : Nat} (h : tr_ok S) (hs : s < 11) : tr_N (tr_add S s d w v) t = if t = s then w else tr_N S t := fr_setD (by rw [h.2.1]; exact hs)
theorem tr_add_P {S : tr_S} {s d w v t : Nat} (h : tr_ok S) (hs : s < 11) : tr_P (tr_add S s d w v) t = if t = s then some d else tr_P S t := fr_setD (by rw [h.2.2.1]; exact hs)
theorem tr_fb_add {S : tr_S} {s d w : Nat} (h : tr_ok S) (hs : s < 11) (h0 : tr_K S s = 0) : tr_fb (tr_add S s d w 1) = tr_fb S := by
  unfold tr_fb
  apply tr_sm_eq
  intro t _ _
  have hK := tr_add_K (d := d) (w := w) (v := 1) (t := t) h hs
  have hB : tr_B (tr_add S s d w 1) t = if t = s then [] else tr_B S t := rfl
  unfold tr_f
  rw [hK, hB]
  by_cases e : t = s
  · subst e
    rw [if_pos rfl, if_pos rfl, h0]
    rfl
  · rw [if_neg e, if_neg e]
section READER2
variable {xs : List Int32} {h : pm_H} {r o ro t p : Nat} {ws : List Nat} {S : tr_S} {Q : Option Value → pm_H → Prop}
theorem ct_R_readPart {d : Nat} (hr : rd_R h r o t p false) (ho : bt_R h o ro (ws.map nI)) (hw : rd_by ws) (hp : p ≤ ws.length) (ht : tr_R h t S) (hd : d ≤ 10) (hfb : tr_fb S ≤ 80)
    (d1 : r < o ∨ o + 2 ≤ r) (d2 : r < t ∨ t + 27 ≤ r) (d3 : t + 27 ≤ o ∨ o + 2 ≤ t)
    (kF : ∀ (q : Nat) (v : Option Nat) (S' : tr_S) (h' : pm_H), rd_F ws S d p q → (tr_rt S → tr_rt S') → (∀ e, v = some e → e ≤ 10) → rd_R h' r o t q true → tr_R h' t S' → bt_R h' o ro (ws.map nI) → rd_fr r t h h' → Q (some (.int (tr_pv v))) h')
    (kN : ∀ (p' : Nat) (S' : tr_S) (o' : Option Nat) (h' : pm_H), rd_N ws S d p p' S' o' → rd_R h' r o t p' false → tr_R h' t S' → bt_R h' o ro (ws.map nI) → rd_fr r t h h' → Q (some (.int (tr_pv o'))) h') :
    pm_X xs 4 mR_readPart [.ref r, .int (nI d)] h Q := by
  have hr' : h.1[r]? = some (.inr (.inr (kR, [Value.ref o, .ref t, .int (nI p), .int (fr_b false)]))) := hr
  have hok : tr_ok S := ht.2.2.2.2.2.2
  obtain ⟨l1, l2, l3, bK, bN, bP⟩ := id hok
  have hro : ws.length ≤ ro ∧ ro ≤ 1000 := by obtain ⟨ys, -, -, -, -, g5, g6⟩ := id ho; rw [List.length_map] at g5; exact ⟨g5, g6⟩
  have hmx := tr_mx_le (f := tr_c S d) (g := tr_N S) bN 10
  have hw1 := rd_lt hw (p + 1)
  have hw0 := rd_lt hw p
  unfold pm_X
  (repeat (first | refine pm_W.ts rfl rfl ?_ | refine pm_W.tl rfl rfl ?_))
  refine pm_W.callV rfl rfl rfl rfl (fr_ble rfl) hr' (fr_ble rfl) (ct_R_takeKind hr ho hw (by omega) ht hd (fun hm hi hlt g gr hag => ?_) (fun hlt h9 g gr hag => ?_) (fun hn1 hn2 g gr hag => ?_))
  ·
    have gr' : g.1[r]? = some (.inr (.inr (kR, [Value.ref o, .ref t, .int (nI (p + 1)), .int (fr_b false)]))) := gr
    have gt := ht.ag hag (by omega)
    have go := ho.ag hag (by omega)
    obtain ⟨t1, -⟩ := id gt
    (repeat (first | refine pm_W.ts rfl rfl ?_ | refine pm_W.tl rfl rfl ?_))
    refine pm_W.icmp rfl (fun c => ?_) (fun c => ?_)
    · (repeat (first | refine pm_W.ts rfl rfl ?_ | refine pm_W.tl rfl rfl ?_ | refine pm_W.get rfl rfl gr' rfl ?_))
      refine pm_W.callV (d' := 1) rfl rfl rfl rfl (fr_ble rfl) t1 (fr_ble rfl) (ct_T_greatestNameIn gt hd ?_)
      have e1 : nI (tr_mx (tr_c S d) (tr_N S) 10) + Int32.ofInt 1 = nI (tr_mx (tr_c S d) (tr_N S) 10 + 1) := fr_inc _
      (iterate 2 (first | refine pm_W.ts rfl rfl ?_ | refine pm_W.tl rfl rfl ?_))
      rw [e1]
      (iterate 1 (first | refine pm_W.ts rfl rfl ?_ | refine pm_W.tl rfl rfl ?_))
      refine pm_W.callV rfl rfl rfl rfl (fr_ble rfl) gr' (fr_ble rfl) (ct_R_take (lo := tr_mx (tr_c S d) (tr_N S) 10 + 1) (hi := 31) gr go hw (by omega) (by omega) (by omega) (fun _ hk g2 gr2 hag2 => ?_) (fun hk g2 gr2 hag2 => ?_))
      · have gr2' : g2.1[r]? = some (.inr (.inr (kR, [Value.ref o, .ref t, .int (nI (p + 1 + 1)), .int (fr_b false)]))) := gr2
        have gt2 := gt.ag hag2 (by omega)
        have go2 := go.ag hag2 (by omega)
        obtain ⟨u1, -⟩ := id gt2
        have hnm : rd_nm ws S d p := hk
        (repeat (first | refine pm_W.ts rfl rfl ?_ | refine pm_W.tl rfl rfl ?_ | refine pm_W.get rfl rfl gr2' rfl ?_))
        refine pm_W.ifz rfl (fun c2 => ?_) (fun c2 => absurd rfl c2)
        (repeat (first | refine pm_W.ts rfl rfl ?_ | refine pm_W.tl rfl rfl ?_ | refine pm_W.get rfl rfl gr2' rfl ?_))
        have hv : rd_w ws p ≤ 2 := by rcases hi with q | q <;> omega
        refine pm_W.callV (d' := 1) rfl rfl rfl rfl (fr_ble rfl) u1 (fr_ble rfl) (ct_T_addEntry gt2 hd hk.2.2 hv (fun s hs1 hs2 hs3 hs4 g3 gt3 hag3 => ?_) (fun hno => ?_))
        · have gr3 : rd_R g3 r o t (p + 1 + 1) false := hag3.at (by omega) gr2
          have go3 := go2.ag hag3 (by omega)
          have gr3' : g3.1[r]? = some (.inr (.inr (kR, [Value.ref o, .ref t, .int (nI (p + 1 + 1)), .int (fr_b false)]))) := gr3
          have hfr : rd_fr r t h g3 := (((rd_fr.r hag).tr (rd_fr.r hag2)).tr (rd_fr.t hag3))
          (repeat (first | refine pm_W.ts rfl rfl ?_ | refine pm_W.tl rfl rfl ?_))
          refine pm_W.icmp rfl (fun c3 => ?_) (fun c3 => ?_)
          · have c3 : ¬ nI (rd_w ws p) = nI 2 := c3
            rw [nI_eq (by omega) (by omega)] at c3
            have e1 : rd_w ws p = 1 := by rcases hi with q | q <;> omega
            rw [e1] at gt3
            obtain ⟨v1, -⟩ := id gt3
            (repeat (first | refine pm_W.ts rfl rfl ?_ | refine pm_W.tl rfl rfl ?_ | refine pm_W.get rfl rfl gr3' rfl ?_))
            refine pm_W.callV (d' := 1) rfl rfl rfl rfl (fr_ble rfl) v1 (fr_ble rfl) (ct_T_contentOf gt3 (s := s) (by omega) ?_)
            have hfbA := tr_fb_add (d := d) (w := rd_w ws (p + 1)) hok (by omega) hs3
            have hBA : tr_B (tr_add S s d (rd_w ws (p + 1)) 1) s = [] := by show (if s = s then [] else _) = []; rw [if_pos rfl]
            have hw2 : rd_w ws (p + 1 + 1) = rd_w ws (p + 2) := rfl
            refine pm_W.callV rfl rfl rfl rfl (fr_ble rfl) gr3' (fr_ble rfl) (ct_R_readFile gr3 go3 hw (by omega) gt3 (by omega) hBA (by rw [hfbA]; exact hfb) d1 d2 d3 (fun hk1 g4 gr4 gt4 go4 f1 f2 f3 => ?_) (fun a1 a2 a3 a4 g4 S4 hS4 gr4 gt4 go4 f1 f2 f3 => ?_) (fun a1 a2 a3 a4 g4 gr4 gt4 go4 f1 f2 f3 => ?_))
            · rw [hfbA] at hk1
              (repeat (first | refine pm_W.ts rfl rfl ?_ | refine pm_W.tl rfl rfl ?_))
              exact pm_W.iret rfl rfl (kF (p + 2) (some d) _ g4 (Or.inr (Or.inr (Or.inr (Or.inl ⟨rfl, hm, e1, hnm, hk1⟩)))) (fun z => tr_rt_add z hs1) (fun e he => by cases he; exact hd) gr4 gt4 go4 (hfr.tr ⟨f1, f2, f3⟩))
            · rw [hfbA] at a3
              (repeat (first | refine pm_W.ts rfl rfl ?_ | refine pm_W.tl rfl rfl ?_))
              exact pm_W.iret rfl rfl (kF ws.length (some d) _ g4 (Or.inr (Or.inr (Or.inr (Or.inr ⟨rfl, hm, e1, hnm, ⟨a1, a2, a3⟩, by omega⟩)))) (fun z => by obtain ⟨bs, rfl⟩ := hS4; exact tr_rt_setB (tr_rt_add z hs1)) (fun e he => by cases he; exact hd) gr4 gt4 go4 (hfr.tr ⟨f1, f2, f3⟩))
            · rw [hfbA] at a3
              (repeat (first | refine pm_W.ts rfl rfl ?_ | refine pm_W.tl rfl rfl ?_))
              refine pm_W.iret rfl rfl (kN (p + 3 + rd_w ws (p + 2)) _ (some d) g4 (Or.inr (Or.inr ⟨hm, e1, hnm, ⟨a1, a2, a3⟩, by omega, s, ⟨hs1, hs2, hs3, hs4⟩, rfl, rfl, rfl⟩)) ?_ gt4 go4 (hfr.tr ⟨f1, f2, f3⟩))
              rw [show p + 3 + rd_w ws (p + 2) = p + 1 + 1 + 1 + rd_w ws (p + 2) by omega]
              exact gr4
          · have c3 : ¬ ¬ nI (rd_w ws p) = nI 2 := c3
            have c3 := Classical.not_not.mp c3
            rw [nI_eq (by omega) (by omega)] at c3
            rw [c3] at gt3
            (repeat (first | refine pm_W.ts rfl rfl ?_ | refine pm_W.tl rfl rfl ?_))
            exact pm_W.iret rfl rfl (kN (p + 2) _ (some s) g3 (Or.inr (Or.inl ⟨hm, c3, hnm, s, ⟨hs1, hs2, hs3, hs4⟩, rfl, rfl, rfl⟩)) gr3 gt3 go3 hfr)
        · have : tr_cnt (tr_u S) 10 = 10 := tr_cnt_all 10 (fun s h1 h2 => decide_eq_true (hno s h1 h2))
          have := hm.1
          omega
      · have gr2' : g2.1[r]? = some (.inr (.inr (kR, [Value.ref o, .ref t, .int (nI (p + 1)), .int (fr_b true)]))) := gr2
        (repeat (first | refine pm_W.ts rfl rfl ?_ | refine pm_W.tl rfl rfl ?_ | refine pm_W.get rfl rfl gr2' rfl ?_))
        refine pm_W.ifz rfl (fun c2 => absurd (show fr_b true = 0 from c2) (by decide)) (fun c2 => ?_)
        (repeat (first | refine pm_W.ts rfl rfl ?_ | refine pm_W.tl rfl rfl ?_))
        exact pm_W.iret rfl rfl (kF (p + 1) (some d) S g2 (Or.inr (Or.inr (Or.inl ⟨rfl, hm, hi, fun z => hk ⟨rfl, z⟩⟩))) (fun z => z) (fun e he => by cases he; exact hd) gr2 (gt.ag hag2 (by omega)) (go.ag hag2 (by omega)) ((rd_fr.r hag).tr (rd_fr.r hag2)))
    · have c : ¬ ¬ nI (rd_w ws p) = nI 9 := c
      have c := Classical.not_not.mp c
      rw [nI_eq (by omega) (by omega)] at c
      rcases hi with q | q <;> omega
  ·
    have gr' : g.1[r]? = some (.inr (.inr (kR, [Value.ref o, .ref t, .int (nI (p + 1)), .int (fr_b false)]))) := gr
    have gt := ht.ag hag (by omega)
    have go := ho.ag hag (by omega)
    obtain ⟨t1, -⟩ := id gt
    have hcnt := tr_cnt_le (f := tr_c S d) 10
    (repeat (first | refine pm_W.ts rfl rfl ?_ | refine pm_W.tl rfl rfl ?_))
    refine pm_W.icmp rfl (fun c => absurd rfl c) (fun c => ?_)
    (repeat (first | refine pm_W.ts rfl rfl ?_ | refine pm_W.tl rfl rfl ?_ | refine pm_W.get rfl rfl gr' rfl ?_))
    refine pm_W.callV (d' := 1) rfl rfl rfl rfl (fr_ble rfl) t1 (fr_ble rfl) (ct_T_childrenOf gt hd ?_)
    (repeat (first | refine pm_W.ts rfl rfl ?_ | refine pm_W.tl rfl rfl ?_))
    refine pm_W.callV rfl rfl rfl rfl (fr_ble rfl) gr' (fr_ble rfl) (ct_R_take (lo := tr_cnt (tr_c S d) 10) (hi := tr_cnt (tr_c S d) 10) gr go hw (by omega) (by omega) (by omega) (fun _ hk g2 gr2 hag2 => ?_) (fun hk g2 gr2 hag2 => ?_))
    · have gr2' : g2.1[r]? = some (.inr (.inr (kR, [Value.ref o, .ref t, .int (nI (p + 1 + 1)), .int (fr_b false)]))) := gr2
      have gt2 := gt.ag hag2 (by omega)
      obtain ⟨u1, -⟩ := id gt2
      (repeat (first | refine pm_W.ts rfl rfl ?_ | refine pm_W.tl rfl rfl ?_ | refine pm_W.get rfl rfl gr2' rfl ?_))
      refine pm_W.callV (d' := 1) rfl rfl rfl rfl (fr_ble rfl) u1 (fr_ble rfl) (ct_T_parentOf gt2 (by omega) ?_)
      exact pm_W.iret rfl rfl (kN (p + 2) S (tr_P S d) g2 (Or.inl ⟨hk.1, h9, by have := hk.2.1; have := hk.2.2; omega, rfl, rfl, rfl⟩) gr2 gt2 (go.ag hag2 (by omega)) ((rd_fr.r hag).tr (rd_fr.r hag2)))
    · have gr2' : g2.1[r]? = some (.inr (.inr (kR, [Value.ref o, .ref t, .int (nI (p + 1)), .int (fr_b true)]))) := gr2
      have gt2 := gt.ag hag2 (by omega)
      obtain ⟨u1, -⟩ := id gt2
      (repeat (first | refine pm_W.ts rfl rfl ?_ | refine pm_W.tl rfl rfl ?_ | refine pm_W.get rfl rfl gr2' rfl ?_))
      refine pm_W.callV (d' := 1) rfl rfl rfl rfl (fr_ble rfl) u1 (fr_ble rfl) (ct_T_parentOf gt2 (by omega) ?_)
      exact pm_W.iret rfl rfl (kF (p + 1) (tr_P S d) S g2 (Or.inr (Or.inl ⟨rfl, hlt, h9, fun z => hk ⟨rfl, z.1, by omega, by omega⟩⟩)) (fun z => z) (bP d) gr2 gt2 (go.ag hag2 (by omega)) ((rd_fr.r hag).tr (rd_fr.r hag2)))
  ·
    have gr' : g.1[r]? = some (.inr (.inr (kR, [Value.ref o, .ref t, .int (nI p), .int (fr_b true)]))) := gr
    have gt := ht.ag hag (by omega)
    have go := ho.ag hag (by omega)
    obtain ⟨t1, -⟩ := id gt
    (repeat (first | refine pm_W.ts rfl rfl ?_ | refine pm_W.tl rfl rfl ?_))
    refine pm_W.icmp rfl (fun c => ?_) (fun c => absurd (show ¬ (-1 : Int32) = (Int8.ofInt 9).toInt32 by decide) c)
    (repeat (first | refine pm_W.ts rfl rfl ?_ | refine pm_W.tl rfl rfl ?_ | refine pm_W.get rfl rfl gr' rfl ?_))
    refine pm_W.callV (d' := 1) rfl rfl rfl rfl (fr_ble rfl) t1 (fr_ble rfl) (ct_T_greatestNameIn gt hd ?_)
    have e1 : nI (tr_mx (tr_c S d) (tr_N S) 10) + Int32.ofInt 1 = nI (tr_mx (tr_c S d) (tr_N S) 10 + 1) := fr_inc _
    (iterate 2 (first | refine pm_W.ts rfl rfl ?_ | refine pm_W.tl rfl rfl ?_))
    rw [e1]
    (iterate 1 (first | refine pm_W.ts rfl rfl ?_ | refine pm_W.tl rfl rfl ?_))
    refine pm_W.callV rfl rfl rfl rfl (fr_ble rfl) gr' (fr_ble rfl) (ct_R_take (lo := tr_mx (tr_c S d) (tr_N S) 10 + 1) (hi := 31) gr go hw (by omega) (by omega) (by omega) (fun z => by cases z) (fun _ g2 gr2 hag2 => ?_))
    have gr2' : g2.1[r]? = some (.inr (.inr (kR, [Value.ref o, .ref t, .int (nI p), .int (fr_b true)]))) := gr2
    (repeat (first | refine pm_W.ts rfl rfl ?_ | refine pm_W.tl rfl rfl ?_ | refine pm_W.get rfl rfl gr2' rfl ?_))
    refine pm_W.ifz rfl (fun c2 => absurd (show fr_b true = 0 from c2) (by decide)) (fun c2 => ?_)
    (repeat (first | refine pm_W.ts rfl rfl ?_ | refine pm_W.tl rfl rfl ?_))
    exact pm_W.iret rfl rfl (kF p (some d) S g2 (Or.inl ⟨rfl, hn1, hn2⟩) (fun z => z) (fun e he => by cases he; exact hd) gr2 (gt.ag hag2 (by omega)) (go.ag hag2 (by omega)) ((rd_fr.r hag).tr (rd_fr.r hag2)))
theorem ct_R_readAll {I : Nat → tr_S → Option Nat → Prop} (hr : rd_R h r o t 0 false) (ho : bt_R h o ro (ws.map nI)) (hw : rd_by ws) (ht : tr_R h t S)
    (d1 : r < o ∨ o + 2 ≤ r) (d2 : r < t ∨ t + 27 ≤ r) (d3 : t + 27 ≤ o ∨ o + 2 ≤ t)
    (i0 : I 0 (tr_clr S 10) (some 0)) (i1 : ∀ p S d p' S' o', I p S (some d) → rd_N ws S d p p' S' o' → p ≤ ws.length → I p' S' o') (i2 : ∀ p S o, I p S o → tr_fb S ≤ 80 ∧ ∀ e, o = some e → e ≤ 10)
    (kF : ∀ (p q d : Nat) (S S' : tr_S) (h' : pm_H), I p S (some d) → rd_F ws S d p q → (tr_rt S → tr_rt S') → p ≤ ws.length → rd_R h' r o t q true → tr_R h' t S' → rd_fr r t h h' → Q (some (.int (-1 - nI q))) h')
    (kT : ∀ (p : Nat) (S : tr_S) (h' : pm_H), I p S none → p < ws.length → rd_R h' r o t p false → tr_R h' t S → rd_fr r t h h' → Q (some (.int (-1 - nI p))) h')
    (kO : ∀ (S : tr_S) (h' : pm_H), I ws.length S none → rd_R h' r o t ws.length false → tr_R h' t S → rd_fr r t h h' → Q (some (.int (nI (tr_cnt (tr_u S) 10)))) h') :
    pm_X xs 5 mR_readAll [.ref r] h Q := by
  have hro : ws.length ≤ ro ∧ ro ≤ 1000 := by obtain ⟨ys, -, -, -, -, g5, g6⟩ := id ho; rw [List.length_map] at g5; exact ⟨g5, g6⟩
  have cnt : ∀ {g : pm_H}, bt_R g o ro (ws.map nI) → ∃ fs, g.1[o]? = some (.inr (.inr (kB, fs))) := fun hg => by
    obtain ⟨ys, q, -⟩ := hg
    exact ⟨_, q⟩
  have finF : ∀ (g : pm_H) (q : Nat) (v1 v2 : Value), rd_R g r o t q true → Q (some (.int (-1 - nI q))) g → pm_W xs 5 mR_readAll 46 [.ref r, v1, v2] [] g Q := by
    intro g q v1 v2 gr hq
    have gr' : g.1[r]? = some (.inr (.inr (kR, [Value.ref o, .ref t, .int (nI q), .int (fr_b true)]))) := gr
    (repeat (first | refine pm_W.ts rfl rfl ?_ | refine pm_W.tl rfl rfl ?_ | refine pm_W.get rfl rfl gr' rfl ?_))
    refine pm_W.ifz rfl (fun c => ?_) (fun c => absurd (show ¬ fr_b true = 0 by decide) c)
    (repeat (first | refine pm_W.ts rfl rfl ?_ | refine pm_W.tl rfl rfl ?_ | refine pm_W.get rfl rfl gr' rfl ?_))
    exact pm_W.iret rfl rfl hq
  have finO : ∀ (g : pm_H) (p : Nat) (S' : tr_S) (v1 v2 : Value), I p S' none → p ≤ ws.length → rd_R g r o t p false → tr_R g t S' → bt_R g o ro (ws.map nI) → rd_fr r t h g → pm_W xs 5 mR_readAll 46 [.ref r, v1, v2] [] g Q := by
    intro g p S' v1 v2 hI hp gr gt go hfr
    have gr' : g.1[r]? = some (.inr (.inr (kR, [Value.ref o, .ref t, .int (nI p), .int (fr_b false)]))) := gr
    obtain ⟨fs, o1⟩ := cnt go
    obtain ⟨t1, -⟩ := id gt
    (repeat (first | refine pm_W.ts rfl rfl ?_ | refine pm_W.tl rfl rfl ?_ | refine pm_W.get rfl rfl gr' rfl ?_))
    refine pm_W.ifz rfl (fun c => absurd rfl c) (fun c => ?_)
    (repeat (first | refine pm_W.ts rfl rfl ?_ | refine pm_W.tl rfl rfl ?_ | refine pm_W.get rfl rfl gr' rfl ?_))
    refine pm_W.callV (d' := 0) rfl rfl rfl rfl (fr_ble rfl) o1 (fr_ble rfl) (ct_B_count go ?_)
    rw [List.length_map]
    refine pm_W.icmp rfl (fun c2 => ?_) (fun c2 => ?_)
    · have c2 : nI ws.length ≤ nI p := c2
      rw [nI_leI (by omega) (by omega)] at c2
      have e : p = ws.length := by omega
      subst e
      (repeat (first | refine pm_W.ts rfl rfl ?_ | refine pm_W.tl rfl rfl ?_ | refine pm_W.get rfl rfl gr' rfl ?_))
      refine pm_W.callV (d' := 0) rfl rfl rfl rfl (fr_ble rfl) t1 (fr_ble rfl) (ct_T_entries gt ?_)
      exact pm_W.iret rfl rfl (kO S' g hI gr gt hfr)
    · have c2 : ¬ nI ws.length ≤ nI p := c2
      rw [nI_leI (by omega) (by omega)] at c2
      (repeat (first | refine pm_W.ts rfl rfl ?_ | refine pm_W.tl rfl rfl ?_ | refine pm_W.get rfl rfl gr' rfl ?_))
      exact pm_W.iret rfl rfl (kT p S' g hI (by omega) gr gt hfr)
  have loop : ∀ (q i p : Nat) (S' : tr_S) (o' : Option Nat) (g : pm_H), i + q = ws.length + 1 → 2 * i ≤ p → p ≤ ws.length → I p S' o' → rd_R g r o t p false → tr_R g t S' → bt_R g o ro (ws.map nI) → rd_fr r t h g → pm_W xs 5 mR_readAll 11 [.ref r, .int (tr_pv o'), .int (nI i)] [] g Q := by
    intro q
    induction q with
    | zero => intro i p S' o' g hi hp1 hp2; omega
    | succ q ih =>
      intro i p S' o' g hi hp1 hp2 hI gr gt go hfr
      obtain ⟨hb1, hb2⟩ := i2 p S' o' hI
      have gr' : g.1[r]? = some (.inr (.inr (kR, [Value.ref o, .ref t, .int (nI p), .int (fr_b false)]))) := gr
      obtain ⟨fs, o1⟩ := cnt go
      (repeat (first | refine pm_W.ts rfl rfl ?_ | refine pm_W.tl rfl rfl ?_ | refine pm_W.get rfl rfl gr' rfl ?_))
      refine pm_W.callV (d' := 0) rfl rfl rfl rfl (fr_ble rfl) o1 (fr_ble rfl) (ct_B_count go ?_)
      rw [List.length_map]
      refine pm_W.icmp rfl (fun c => ?_) (fun c => ?_)
      · have c : nI ws.length < nI i := c
        rw [nI_ltI (by omega) (by omega)] at c
        omega
      · (repeat (first | refine pm_W.ts rfl rfl ?_ | refine pm_W.tl rfl rfl ?_))
        refine pm_W.icmp rfl (fun c2 => ?_) (fun c2 => ?_)
        · have c2 : tr_pv o' = -1 := c2
          rw [tr_pv_none hb2] at c2
          subst c2
          exact finO g p S' _ _ hI hp2 gr gt go hfr
        · have c2 : ¬ tr_pv o' = -1 := c2
          rw [tr_pv_none hb2] at c2
          cases o' with
          | none => exact absurd rfl c2
          | some d =>
            have hd := hb2 d rfl
            (repeat (first | refine pm_W.ts rfl rfl ?_ | refine pm_W.tl rfl rfl ?_ | refine pm_W.get rfl rfl gr' rfl ?_))
            refine pm_W.ifz rfl (fun c3 => absurd rfl c3) (fun c3 => ?_)
            (repeat (first | refine pm_W.ts rfl rfl ?_ | refine pm_W.tl rfl rfl ?_))
            refine pm_W.callV rfl rfl rfl rfl (fr_ble rfl) gr' (fr_ble rfl) (ct_R_readPart gr go hw hp2 gt hd hb1 d1 d2 d3 (fun f v S2 g2 hF hrt hv gr2 gt2 go2 hfr2 => ?_) (fun p2 S2 o2 g2 hN gr2 gt2 go2 hfr2 => ?_))
            ·
              have gr2' : g2.1[r]? = some (.inr (.inr (kR, [Value.ref o, .ref t, .int (nI f), .int (fr_b true)]))) := gr2
              have out := kF p f d S' S2 g2 hI hF hrt hp2 gr2 gt2 (hfr.tr hfr2)
              obtain ⟨fs2, o2⟩ := cnt go2
              (iterate 2 (first | refine pm_W.ts rfl rfl ?_ | refine pm_W.tl rfl rfl ?_))
              refine pm_W.goto rfl ?_
              (repeat (first | refine pm_W.ts rfl rfl ?_ | refine pm_W.tl rfl rfl ?_ | refine pm_W.get rfl rfl gr2' rfl ?_))
              refine pm_W.callV (d' := 0) rfl rfl rfl rfl (fr_ble rfl) o2 (fr_ble rfl) (ct_B_count go2 ?_)
              refine pm_W.icmp rfl (fun c4 => finF g2 f _ _ gr2 out) (fun c4 => ?_)
              (repeat (first | refine pm_W.ts rfl rfl ?_ | refine pm_W.tl rfl rfl ?_))
              refine pm_W.icmp rfl (fun c5 => finF g2 f _ _ gr2 out) (fun c5 => ?_)
              (repeat (first | refine pm_W.ts rfl rfl ?_ | refine pm_W.tl rfl rfl ?_ | refine pm_W.get rfl rfl gr2' rfl ?_))
              refine pm_W.ifz rfl (fun c6 => finF g2 f _ _ gr2 out) (fun c6 => absurd (show ¬ fr_b true = 0 by decide) c6)
            · (iterate 2 (first | refine pm_W.ts rfl rfl ?_ | refine pm_W.tl rfl rfl ?_))
              refine pm_W.goto rfl ?_
              have hp' : p + 2 ≤ p2 ∧ p2 ≤ ws.length := by
                rcases hN with ⟨a1, -, -, rfl, -⟩ | ⟨-, -, ⟨a1, -⟩, s, -, rfl, -⟩ | ⟨-, -, -, -, a1, s, -, rfl, -⟩ <;> omega
              have := ih (i + 1) p2 S2 o2 g2 (by omega) (by omega) hp'.2 (i1 p S' d p2 S2 o2 hI hN hp2) gr2 gt2 go2 (hfr.tr hfr2)
              rw [← fr_inc i] at this
              exact this
  have hr' : h.1[r]? = some (.inr (.inr (kR, [Value.ref o, .ref t, .int (nI 0), .int (fr_b false)]))) := hr
  obtain ⟨t1, -⟩ := id ht
  unfold pm_X
  (repeat (first | refine pm_W.ts rfl rfl ?_ | refine pm_W.tl rfl rfl ?_ | refine pm_W.get rfl rfl hr' rfl ?_))
  refine pm_W.callV (d' := 0) rfl rfl rfl rfl (fr_ble rfl) t1 (fr_ble rfl) (ct_T_clear ht (fun g gt hag => ?_))
  (iterate 4 (first | refine pm_W.ts rfl rfl ?_ | refine pm_W.tl rfl rfl ?_))
  exact loop (ws.length + 1) 0 0 (tr_clr S 10) (some 0) g (by omega) (by omega) (by omega) i0 (hag.at (by omega) hr) gt (ho.ag hag (by omega)) (rd_fr.t hag)
end READER2
