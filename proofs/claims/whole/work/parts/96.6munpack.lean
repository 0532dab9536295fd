section MUNPACK
variable {xs : List Int32} {h : pm_H} {o : Nat} {A : Nat → List Int32} {I : Nat → Int32} {T0 : te_T} {ws : List Nat} {Q : Option Value → pm_H → Prop}
def uv : Option Nat → Int32
  | none => -1
  | some q => nI q
def uR (T : te_T) (n : Nat) (bad fq : Option Nat) : Int32 × Option te_T := match bad with
  | some q0 => (-1 - nI q0, none)
  | none => match fq with
    | some q => (-1 - nI q, none)
    | none => (nI n, some T)
theorem ct_M_unpackE {T : te_T} {n s : Nat} {bad fq : Option Nat} {R : Int32 × Option te_T} {v2 v3 v4 v7 v8 v9 v10 : Value} {c7 : Int32} (hv7 : v7 = .int c7) (hb : mr_R h o A I) (hm : mt A 10 T) (hm0 : mt A 0 T0) (hV : tV T) (hmo : mo A I ws) (hR : R = uR T n bad fq) (hfq : ∀ q, fq = some q → q < 1000) (hbq : ∀ q, bad = some q → q < 1000) (huf : uf ws (em_out T) bad s) (hs : s ≤ ws.length)
    (k0 : ∀ v, R = (v, none) → ∀ (g : pm_H) (B : Nat → List Int32) (y : Int32), mr_R g o B (fr_up I 0 y) → mt B 0 T0 → (∀ j, j ≠ 1 → j ≠ 3 → j ≠ 4 → j ≠ 5 → j ≠ 6 → B j = A j) → (∀ t, 120 ≤ t → (B 1).getD t 0 = (A 1).getD t 0) → fr_ag o (o + 15) h g → Q (some (.int v)) g)
    (k1 : ∀ n T1, R = (nI n, some T1) → ∀ (g : pm_H) (B : Nat → List Int32) (y : Int32), mr_R g o B (fr_up I 0 y) → mt B 0 T1 → (∀ j, j ≠ 1 → j ≠ 3 → j ≠ 4 → j ≠ 5 → j ≠ 6 → B j = A j) → (∀ t, 120 ≤ t → (B 1).getD t 0 = (A 1).getD t 0) → fr_ag o (o + 15) h g → Q (some (.int (nI n))) g) :
    pm_W xs 4 mM_unpack 285 [.ref o, .int (nI n), v2, v3, v4, .int (nI s), .int (uv fq), v7, v8, v9, v10] [] h Q := by
  subst hv7
  have h1 := hb.1
  have l120 := hmo.2.1
  (iterate 2 (first | refine pm_W.ts rfl rfl ?_ | refine pm_W.tl rfl rfl ?_))
  refine pm_W.callV (d' := 3) (as := [.int (nI 10)]) rfl rfl rfl rfl (fr_ble rfl) h1 (fr_ble rfl) (ct_M_emit hb hm hV (by omega) (fun g B hB hS hr hq hl a => ?_))
  have t1 := hB.1
  have hmoB : ∀ t, t < ws.length → (B 1).getD (120 + t) 0 = nI (rd_w ws t) := fun t ht => by rw [hq _ (by omega)]; exact mo_at hmo ht
  have loop : ∀ (r : Nat) (cur : Int32), r ≤ s → (∀ q0, bad = some q0 → r ≤ q0 → cur = nI q0) → (bad = none → cur = uv fq) → pm_W xs 4 mM_unpack 297 [.ref o, .int (nI n), v2, v3, v4, .int (nI s), .int cur, .int c7, .int (nI r - Int32.ofInt 1), v9, v10] [] g Q := by
    intro r
    induction r with
    | zero =>
      intro cur hr0 hc1 hc2
      (repeat (first | refine pm_W.ts rfl rfl ?_ | refine pm_W.tl rfl rfl ?_))
      refine pm_W.ifz rfl (fun _ => ?_) (fun z => absurd (show nI 0 - Int32.ofInt 1 < 0 by decide) z)
      have fin : ∀ q, q < 1000 → cur = nI q → R = (-1 - nI q, none) → pm_W xs 4 mM_unpack 337 [.ref o, .int (nI n), v2, v3, v4, .int (nI s), .int cur, .int c7, .int (nI 0 - Int32.ofInt 1), v9, v10] [] g Q := by
        intro q hq1 hq2 hq3
        subst hq2
        (iterate 1 (first | refine pm_W.ts rfl rfl ?_ | refine pm_W.tl rfl rfl ?_))
        refine pm_W.ifz rfl (fun z => absurd z (nI_pos (by omega))) (fun _ => ?_)
        (iterate 3 (first | refine pm_W.ts rfl rfl ?_ | refine pm_W.tl rfl rfl ?_))
        refine pm_W.goto rfl ?_
        exact pm_W.iret rfl rfl (k0 _ hq3 g B _ hB (mt_rows hm0 (hr 3 (by omega)) (hr 4 (by omega)) (hr 5 (by omega)) (hr 6 (by omega))) (fun j n1 _ _ _ _ => hr j n1) hq a)
      cases hbad : bad with
      | some q0 => exact fin q0 (hbq q0 hbad) (hc1 q0 hbad (by omega)) (by rw [hR, hbad]; rfl)
      | none =>
        cases hf : fq with
        | some q => exact fin q (hfq q hf) (by rw [hc2 hbad, hf]; rfl) (by rw [hR, hbad, hf]; rfl)
        | none =>
          have ec : cur = -1 := by rw [hc2 hbad, hf]; rfl
          subst ec
          (iterate 1 (first | refine pm_W.ts rfl rfl ?_ | refine pm_W.tl rfl rfl ?_))
          refine pm_W.ifz rfl (fun _ => ?_) (fun z => absurd (show (-1 : Int32) < 0 by decide) z)
          (iterate 2 (first | refine pm_W.ts rfl rfl ?_ | refine pm_W.tl rfl rfl ?_))
          refine pm_W.callV (d' := 0) (as := [.int (nI n)]) rfl rfl rfl rfl (fr_ble rfl) t1 (fr_ble rfl) (ct_M_taken (T := T) hB (mt_rows hm (hr 3 (by omega)) (hr 4 (by omega)) (hr 5 (by omega)) (hr 6 (by omega))) hV (fun g2 C hC hmC hrC aC => ?_))
          refine pm_W.iret rfl rfl (k1 n T (by rw [hR, hbad, hf]; rfl) g2 C _ hC hmC (fun j n1 n3 n4 n5 n6 => by rw [hrC j n3 n4 n5 n6, hr j n1]) (fun t ht => by rw [hrC 1 (by omega) (by omega) (by omega) (by omega)]; exact hq t ht) (a.tr aC))
    | succ r ih =>
      intro cur hr0 hc1 hc2
      have e1 : nI (r + 1) - Int32.ofInt 1 = nI r := nI_pred r
      rw [e1]
      have hrl : r < (em_out T).length := by have := huf.1; omega
      (repeat (first | refine pm_W.ts rfl rfl ?_ | refine pm_W.tl rfl rfl ?_))
      refine pm_W.ifz rfl (fun z => absurd z (nI_pos (by omega))) (fun _ => ?_)
      (repeat (first | refine pm_W.ts rfl rfl ?_ | refine pm_W.tl rfl rfl ?_ | refine pm_W.get rfl rfl t1 rfl ?_))
      refine mr_ld (i := 1) (k := r) hB rfl rfl rfl rfl (show r < 1952 by omega) ?_
      have e0 := hS r hrl
      rw [Nat.zero_add] at e0
      rw [e0]
      (repeat (first | refine pm_W.ts rfl rfl ?_ | refine pm_W.tl rfl rfl ?_ | refine pm_W.get rfl rfl t1 rfl ?_))
      show pm_W xs 4 mM_unpack _ _ [.int (nI 120 + nI r), .ref (o + 1), .int ((em_out T).getD r 0)] g Q
      rw [nI_add]
      refine mr_ld (i := 1) (k := 120 + r) hB rfl rfl rfl rfl (show 120 + r < 1952 by omega) ?_
      rw [hmoB r (by omega)]
      refine pm_W.icmp rfl (fun z => ?_) (fun z => ?_)
      · have z : (em_out T).getD r 0 = nI (rd_w ws r) := z
        (repeat (first | refine pm_W.ts rfl rfl ?_ | refine pm_W.tl rfl rfl ?_))
        refine pm_W.goto rfl ?_
        rw [fr_dec]
        refine ih cur (by omega) (fun q0 hq0 hle => ?_) hc2
        by_cases c : r + 1 ≤ q0
        · exact hc1 q0 hq0 c
        · have hu := huf.2
          rw [hq0] at hu
          have er : r = q0 := by omega
          rw [er] at z
          exact absurd z hu.2.2
      · have z : ¬ (em_out T).getD r 0 = nI (rd_w ws r) := z
        (iterate 1 (first | refine pm_W.ts rfl rfl ?_ | refine pm_W.tl rfl rfl ?_))
        refine pm_W.goto rfl ?_
        (repeat (first | refine pm_W.ts rfl rfl ?_ | refine pm_W.tl rfl rfl ?_))
        refine pm_W.goto rfl ?_
        rw [fr_dec]
        refine ih (nI r) (by omega) (fun q0 hq0 hle => ?_) (fun hb0 => ?_)
        · have hu := huf.2
          rw [hq0] at hu
          rcases Nat.lt_or_eq_of_le hle with c | c
          · exact absurd (hu.2.1 r c) z
          · rw [c]
        · have hu := huf.2
          rw [hb0] at hu
          exact absurd (hu r (by omega)) z
  (iterate 4 (first | refine pm_W.ts rfl rfl ?_ | refine pm_W.tl rfl rfl ?_))
  refine loop s (uv fq) (Nat.le_refl _) (fun q0 hq0 hle => ?_) (fun _ => rfl)
  have hu := huf.2
  rw [hq0] at hu
  have := hu.1
  omega
theorem ct_M_unpack (hb : mr_R h o A I) (hm : mt A 0 T0) (hV0 : tV T0) (hmo : mo A I ws) (hby : rd_by ws)
    (k0 : ∀ v, uk ws 200 uk_T0 0 0 0 none = (v, none) → ∀ (g : pm_H) (B : Nat → List Int32) (y : Int32), mr_R g o B (fr_up I 0 y) → mt B 0 T0 → (∀ j, j ≠ 1 → j ≠ 3 → j ≠ 4 → j ≠ 5 → j ≠ 6 → B j = A j) → (∀ t, 120 ≤ t → (B 1).getD t 0 = (A 1).getD t 0) → fr_ag o (o + 15) h g → Q (some (.int v)) g)
    (k1 : ∀ n T1, uk ws 200 uk_T0 0 0 0 none = (nI n, some T1) → ∀ (g : pm_H) (B : Nat → List Int32) (y : Int32), mr_R g o B (fr_up I 0 y) → mt B 0 T1 → (∀ j, j ≠ 1 → j ≠ 3 → j ≠ 4 → j ≠ 5 → j ≠ 6 → B j = A j) → (∀ t, 120 ≤ t → (B 1).getD t 0 = (A 1).getD t 0) → fr_ag o (o + 15) h g → Q (some (.int (nI n))) g) :
    pm_X xs 4 mM_unpack [.ref o] h Q := by
  have h1 := hb.1
  have l120 := hmo.2.1
  generalize hRe : uk ws 200 uk_T0 0 0 0 none = R at k0 k1
  have fin : ∀ (T : te_T) (n s : Nat) (bad fq : Option Nat) (v2 v3 v4 v8 v9 v10 : Value) (c7 : Int32) (g : pm_H) (B : Nat → List Int32), mr_R g o B I → mt B 10 T → mt B 0 T0 → tV T → ut_ag A B → fr_ag o (o + 15) h g → R = uR T n bad fq → (∀ q, fq = some q → q < 1000) → (∀ q, bad = some q → q < 1000) → uf ws (em_out T) bad s → s ≤ ws.length →
      pm_W xs 4 mM_unpack 285 [.ref o, .int (nI n), v2, v3, v4, .int (nI s), .int (uv fq), .int c7, v8, v9, v10] [] g Q := by
    intro T n s bad fq v2 v3 v4 v8 v9 v10 c7 g B hB hm10 hm0 hV hut hag hR hfq hbq huf hs
    refine ct_M_unpackE rfl hB hm10 hm0 hV (mo_rows hmo (hut.1 1 (by omega) (by omega) (by omega) (by omega))) hR hfq hbq huf hs (fun v hv g2 C y hC c1 c2 c3 a => ?_) (fun n T1 hv g2 C y hC c1 c2 c3 a => ?_)
    · exact k0 v hv g2 C y hC c1 (fun j n1 n3 n4 n5 n6 => by rw [c2 j n1 n3 n4 n5 n6, hut.1 j n3 n4 n5 n6]) (fun t ht => by rw [c3 t ht, hut.1 1 (by omega) (by omega) (by omega) (by omega)]) (hag.tr a)
    · exact k1 n T1 hv g2 C y hC c1 (fun j n1 n3 n4 n5 n6 => by rw [c2 j n1 n3 n4 n5 n6, hut.1 j n3 n4 n5 n6]) (fun t ht => by rw [c3 t ht, hut.1 1 (by omega) (by omega) (by omega) (by omega)]) (hag.tr a)
  have exitF : ∀ (T : te_T) (n s q t p : Nat) (c : Bool) (bad : Option Nat) (v2 v3 v9 v10 : Value) (g : pm_H) (B : Nat → List Int32), t < 130 → q < 1000 → mr_R g o B I → mt B 10 T → mt B 0 T0 → tV T → ut_ag A B → fr_ag o (o + 15) h g → R = uk_f bad q → (∀ q, bad = some q → q < 1000) → uf ws (em_out T) bad s → s ≤ ws.length →
      pm_W xs 4 mM_unpack 43 [.ref o, .int (nI n), v2, v3, .int (nI p), .int (nI s), .int (nI q), .int (fr_b c), .int (nI t), v9, v10] [] g Q := by
    intro T n s q t p c bad v2 v3 v9 v10 g B ht hq hB hm10 hm0 hV hut hag hR hbq huf hs
    have out : pm_W xs 4 mM_unpack 262 [.ref o, .int (nI n), v2, v3, .int (nI p), .int (nI s), .int (nI q), .int (fr_b c), .int (nI t), v9, v10] [] g Q := by
      (iterate 1 (first | refine pm_W.ts rfl rfl ?_ | refine pm_W.tl rfl rfl ?_))
      refine pm_W.ifz rfl (fun _ => ?_) (fun z => absurd (nI_pos' (by omega)) z)
      (iterate 2 (first | refine pm_W.ts rfl rfl ?_ | refine pm_W.tl rfl rfl ?_))
      refine fin T n s bad (some q) _ _ _ _ _ _ _ g B hB hm10 hm0 hV hut hag ?_ (fun q' e => by cases e; exact hq) hbq huf hs
      rw [hR]
      cases bad with
      | none => rfl
      | some q0 => rfl
    (repeat (first | refine pm_W.ts rfl rfl ?_ | refine pm_W.tl rfl rfl ?_))
    refine pm_W.icmp rfl (fun z => ?_) (fun _ => ?_)
    · have z : nI 130 ≤ nI t := z
      rw [nI_leI (by omega) (by omega)] at z
      omega
    · (iterate 1 (first | refine pm_W.ts rfl rfl ?_ | refine pm_W.tl rfl rfl ?_))
      cases c with
      | false => exact pm_W.ifz rfl (fun _ => out) (fun z => absurd rfl z)
      | true =>
        refine pm_W.ifz rfl (fun z => absurd (show (1 : Int32) = 0 from z) (by decide)) (fun _ => ?_)
        (iterate 1 (first | refine pm_W.ts rfl rfl ?_ | refine pm_W.tl rfl rfl ?_))
        exact pm_W.ifz rfl (fun _ => out) (fun z => absurd (nI_pos' (by omega)) z)
  have main : ∀ (f : Nat) (T : te_T) (n D w p m t : Nat) (os : List Int32) (bad : Option Nat) (s : Int32) (v9 v10 : Value) (g : pm_H) (B : Nat → List Int32), ur ws T n D w p m os bad → uk ws f T n D p bad = R → ws.length + 2 ≤ f + p → p ≤ ws.length → 2 * t ≤ p → (∀ q, bad = some q → q < 1000) → mr_R g o B I → mt B 10 T → ut_ag A B → fr_ag o (o + 15) h g →
      pm_W xs 4 mM_unpack 43 [.ref o, .int (nI n), .int (nI (te_fb T)), .int (nI D), .int (nI p), .int s, .int (-1), .int (nI 1), .int (nI t), v9, v10] [] g Q := by
    intro f
    induction f with
    | zero =>
      intro T n D w p m t os bad s v9 v10 g B hur hR hf hp
      omega
    | succ f ih =>
      intro T n D w p m t os bad s v9 v10 g B hur hR hf hp ht hbq hB hm10 hut hag
      have t1 := hB.1
      have hV := hur.1
      have hV1 := hV.1
      have hD30 := pa_ok_30 hV.2.2.2.2.2
      have hn10 := hV.2.1
      have hd6 := (pa_d_spec D).1
      have hm0 := ut_mt hm hV0 hut
      have hmoB := mo_rows hmo (hut.1 1 (by omega) (by omega) (by omega) (by omega))
      have other : ¬ (p < ws.length ∧ rd_w ws p = 9) → ¬ uk_mg ws n D p → ∀ c : Int32, pm_W xs 4 mM_unpack 252 [.ref o, .int (nI n), .int (nI (te_fb T)), .int (nI D), .int (nI p), .int (nI p), .int (-1), .int (nI 1), .int (nI t), .int c, v10] [] g Q := by
        intro h9 hmg c
        rw [uk_f0 h9 hmg] at hR
        (iterate 3 (first | refine pm_W.ts rfl rfl ?_ | refine pm_W.tl rfl rfl ?_))
        refine pm_W.goto rfl ?_
        rw [fr_inc]
        exact exitF T n p p (t + 1) p true bad _ _ _ _ g B (by omega) (by omega) hB hm10 hm0 hV1 hut hag hR.symm hbq (ur_uf hur) hp
      (repeat (first | refine pm_W.ts rfl rfl ?_ | refine pm_W.tl rfl rfl ?_))
      refine pm_W.icmp rfl (fun z => ?_) (fun _ => ?_)
      · have z : nI 130 ≤ nI t := z
        rw [nI_leI (by omega) (by omega)] at z
        omega
      · (iterate 1 (first | refine pm_W.ts rfl rfl ?_ | refine pm_W.tl rfl rfl ?_))
        refine pm_W.ifz rfl (fun z => absurd (show (1 : Int32) = 0 from z) (by decide)) (fun _ => ?_)
        (iterate 1 (first | refine pm_W.ts rfl rfl ?_ | refine pm_W.tl rfl rfl ?_))
        refine pm_W.ifz rfl (fun z => absurd (show (0 : Int32) ≤ -1 from z) (by decide)) (fun _ => ?_)
        (iterate 2 (first | refine pm_W.ts rfl rfl ?_ | refine pm_W.tl rfl rfl ?_))
        refine pm_W.callV (d' := 0) (as := [.int (nI p)]) rfl rfl rfl rfl (fr_ble rfl) t1 (fr_ble rfl) (ct_M_byteAt hB hmoB (by omega) (fun hpl => ?_) (fun hpl => ?_))
        · have hl0 := rd_lt hby p
          (repeat (first | refine pm_W.ts rfl rfl ?_ | refine pm_W.tl rfl rfl ?_))
          refine pm_W.icmp rfl (fun z => ?_) (fun z => ?_)
          · have z : ¬ nI (rd_w ws p) = nI 9 := z
            rw [nI_eq (by omega) (by omega)] at z
            have entry : rd_ie ws p → pm_W xs 4 mM_unpack 162 [.ref o, .int (nI n), .int (nI (te_fb T)), .int (nI D), .int (nI p), .int (nI p), .int (-1), .int (nI 1), .int (nI t), .int (nI (rd_w ws p)), v10] [] g Q := by
              intro hie
              (repeat (first | refine pm_W.ts rfl rfl ?_ | refine pm_W.tl rfl rfl ?_))
              refine pm_W.icmp rfl (fun y => ?_) (fun y => ?_)
              · have y : nI 10 ≤ nI n := y
                rw [nI_leI (by omega) (by omega)] at y
                exact other (fun q => z q.2) (fun q => by have := q.2.1; omega) _
              · have y : ¬ nI 10 ≤ nI n := y
                rw [nI_leI (by omega) (by omega)] at y
                (iterate 1 (first | refine pm_W.ts rfl rfl ?_ | refine pm_W.tl rfl rfl ?_))
                refine pm_W.callS (d' := 0) rfl rfl rfl rfl (fr_ble rfl) (fr_ble rfl) (ct_M_depth (by omega) ?_)
                (iterate 1 (first | refine pm_W.ts rfl rfl ?_ | refine pm_W.tl rfl rfl ?_))
                refine pm_W.icmp rfl (fun x => ?_) (fun x => ?_)
                · have x : nI 5 < nI (pa_d D) := x
                  rw [nI_ltI (by omega) (by omega)] at x
                  exact other (fun q => z q.2) (fun q => by have := q.2.2; omega) _
                · have x : ¬ nI 5 < nI (pa_d D) := x
                  rw [nI_ltI (by omega) (by omega)] at x
                  have hmg : uk_mg ws n D p := ⟨hie, by omega, by omega⟩
                  have flt : ∀ q, q < 1000 → uk ws (f + 1) T n D p bad = uk_f bad q → pm_W xs 4 mM_unpack 188 [.ref o, .int (nI n), .int (nI (te_fb T)), .int (nI D), .int (nI p), .int (nI p), .int (-1), .int (nI 1), .int (nI t), .int (nI (rd_w ws p)), v10] [.int (-1 - nI q)] g Q := by
                    intro q hq1 hq2
                    rw [hq2] at hR
                    (iterate 2 (first | refine pm_W.ts rfl rfl ?_ | refine pm_W.tl rfl rfl ?_))
                    refine pm_W.ifz rfl (fun r => absurd (fr_negl hq1) (by have := fr_le.mp (show (0 : Int32) ≤ -1 - nI q from r); intro u; have := fr_lt.mp u; omega)) (fun _ => ?_)
                    (iterate 3 (first | refine pm_W.ts rfl rfl ?_ | refine pm_W.tl rfl rfl ?_))
                    rw [show Int32.ofInt (-1) - (-1 - nI q) = nI q from fr_negn hq1]
                    refine pm_W.goto rfl ?_
                    (iterate 2 (first | refine pm_W.ts rfl rfl ?_ | refine pm_W.tl rfl rfl ?_))
                    refine pm_W.ifz rfl (fun _ => ?_) (fun r => absurd (fr_negl hq1) r)
                    refine pm_W.goto rfl ?_
                    (iterate 1 (first | refine pm_W.ts rfl rfl ?_ | refine pm_W.tl rfl rfl ?_))
                    refine pm_W.goto rfl ?_
                    rw [fr_inc]
                    exact exitF T n p q (t + 1) p true bad _ _ _ _ g B (by omega) hq1 hB hm10 hm0 hV1 hut hag hR.symm hbq (ur_uf hur) hp
                  (iterate 7 (first | refine pm_W.ts rfl rfl ?_ | refine pm_W.tl rfl rfl ?_))
                  show pm_W xs 4 mM_unpack _ _ [.int (nI (te_fb T)), .int (nI 10 + nI n), .int (nI D), .int (nI p), .ref o] g Q
                  rw [nI_add]
                  have hl2 := rd_lt hby (p + 2)
                  refine pm_W.callV (d' := 3) (as := [.int (nI p), .int (nI D), .int (nI (10 + n)), .int (nI (te_fb T))]) rfl rfl rfl rfl (fr_ble rfl) t1 (fr_ble rfl) (ct_M_entry hB hm10 hmoB hV (by omega) (by omega) hpl hby hie (fun c1 => ?_) (fun c1 c2 c3 => ?_) (fun c1 c2 c3 c4 => ?_) (fun c1 c2 g2 C hC mC uC aC => ?_) (fun c1 c2 c3 c4 g2 C hC mC uC aC => ?_))
                  · exact flt (p + 1) (by omega) (uk_f1 hmg c1)
                  · exact flt (p + 2) (by omega) (uk_f2 hmg c1 c2 c3)
                  · exact flt ws.length (by omega) (uk_f3 hmg c1 c2 c3 c4)
                  · have hr2 := ur_dir hur hmg c1 c2 hby
                    rw [uk_d hmg c1 c2] at hR
                    have hn0 := hV.2.2.2.1 n (Nat.le_refl _) (by omega)
                    have hfb := te_fb_dir (T := T) (x := uk_x D (rd_w ws (p + 1))) (show n < 10 by omega) hn0
                    have hmn := mC n (by omega)
                    rw [tP_up, tK_up, tB_up, if_pos rfl, if_pos rfl, if_pos rfl] at hmn
                    have hx0 : uk_x D (rd_w ws (p + 1)) ≠ 0 := (pa_new hV.2.2.2.2.2 hmg.2.2 (show 1 ≤ rd_w ws (p + 1) by have := c1.2.1; omega) c1.2.2).2.2.2.2
                    have t2 := hC.1
                    (iterate 2 (first | refine pm_W.ts rfl rfl ?_ | refine pm_W.tl rfl rfl ?_))
                    refine pm_W.ifz rfl (fun _ => ?_) (fun r => absurd (nI_pos' (by omega)) r)
                    (iterate 3 (first | refine pm_W.ts rfl rfl ?_ | refine pm_W.tl rfl rfl ?_))
                    refine pm_W.ifz rfl (fun r => absurd r (nI_pos (by omega))) (fun _ => ?_)
                    (iterate 2 (first | refine pm_W.ts rfl rfl ?_ | refine pm_W.tl rfl rfl ?_))
                    refine pm_W.icmp rfl (fun r => ?_) (fun _ => ?_)
                    · have r : ¬ nI (rd_w ws p) = nI 2 := r
                      rw [c2] at r
                      exact absurd rfl r
                    · (repeat (first | refine pm_W.ts rfl rfl ?_ | refine pm_W.tl rfl rfl ?_ | refine pm_W.get rfl rfl t2 rfl ?_))
                      show pm_W xs 4 mM_unpack _ _ [.int (nI 10 + nI n), .ref (o + 3)] g2 Q
                      rw [nI_add]
                      refine mr_ld (i := 3) (k := 10 + n) hC rfl rfl rfl rfl (show 10 + n < 20 by omega) ?_
                      rw [hmn.1]
                      refine pm_W.goto rfl ?_
                      (repeat (first | refine pm_W.ts rfl rfl ?_ | refine pm_W.tl rfl rfl ?_ | refine pm_W.get rfl rfl t2 rfl ?_))
                      show pm_W xs 4 mM_unpack _ _ [.int (nI 10 + nI n), .ref (o + 5), .int (nI (te_fb T))] g2 Q
                      rw [nI_add]
                      refine mr_ld (i := 5) (k := 10 + n) hC rfl rfl rfl rfl (show 10 + n < 20 by omega) ?_
                      rw [(hmn.2 hx0).2.1]
                      (iterate 1 (first | refine pm_W.ts rfl rfl ?_ | refine pm_W.tl rfl rfl ?_))
                      rw [nI_add, show te_fb T + ([] : List Int32).length = te_fb (fr_up T n (uk_x D (rd_w ws (p + 1)), 2, [])) from by rw [hfb]; rfl]
                      (iterate 4 (first | refine pm_W.ts rfl rfl ?_ | refine pm_W.tl rfl rfl ?_))
                      refine pm_W.goto rfl ?_
                      (iterate 1 (first | refine pm_W.ts rfl rfl ?_ | refine pm_W.tl rfl rfl ?_))
                      refine pm_W.goto rfl ?_
                      rw [fr_inc, fr_inc]
                      have := c1.1
                      exact ih _ (n + 1) _ 0 (p + 2) (m + 1) (t + 1) _ bad _ _ _ g2 C hr2 hR (by omega) (by omega) (by omega) hbq hC mC (hut.tr uC) (hag.tr aC)
                  · have hr2 := ur_file hur hmg c1 c2 c3 c4 hby
                    rw [uk_fl hmg c1 c2 c3 c4] at hR
                    have hn0 := hV.2.2.2.1 n (Nat.le_refl _) (by omega)
                    have hmn := mC n (by omega)
                    rw [tP_up, tK_up, tB_up, if_pos rfl, if_pos rfl, if_pos rfl] at hmn
                    have hx0 : uk_x D (rd_w ws (p + 1)) ≠ 0 := (pa_new hV.2.2.2.2.2 hmg.2.2 (show 1 ≤ rd_w ws (p + 1) by have := c1.2.1; omega) c1.2.2).2.2.2.2
                    have hfb := te_fb_file (T := T) (bs := rd_bs ws p) (show n < 10 by omega) hn0 hx0
                    have t2 := hC.1
                    (iterate 2 (first | refine pm_W.ts rfl rfl ?_ | refine pm_W.tl rfl rfl ?_))
                    refine pm_W.ifz rfl (fun _ => ?_) (fun r => absurd (nI_pos' (by omega)) r)
                    (iterate 3 (first | refine pm_W.ts rfl rfl ?_ | refine pm_W.tl rfl rfl ?_))
                    refine pm_W.ifz rfl (fun r => absurd r (nI_pos (by omega))) (fun _ => ?_)
                    (iterate 2 (first | refine pm_W.ts rfl rfl ?_ | refine pm_W.tl rfl rfl ?_))
                    refine pm_W.icmp rfl (fun _ => ?_) (fun r => ?_)
                    · (repeat (first | refine pm_W.ts rfl rfl ?_ | refine pm_W.tl rfl rfl ?_ | refine pm_W.get rfl rfl t2 rfl ?_))
                      show pm_W xs 4 mM_unpack _ _ [.int (nI 10 + nI n), .ref (o + 5), .int (nI (te_fb T))] g2 Q
                      rw [nI_add]
                      refine mr_ld (i := 5) (k := 10 + n) hC rfl rfl rfl rfl (show 10 + n < 20 by omega) ?_
                      rw [(hmn.2 hx0).2.1]
                      (iterate 1 (first | refine pm_W.ts rfl rfl ?_ | refine pm_W.tl rfl rfl ?_))
                      rw [nI_add, ← hfb]
                      (iterate 4 (first | refine pm_W.ts rfl rfl ?_ | refine pm_W.tl rfl rfl ?_))
                      refine pm_W.goto rfl ?_
                      (iterate 1 (first | refine pm_W.ts rfl rfl ?_ | refine pm_W.tl rfl rfl ?_))
                      refine pm_W.goto rfl ?_
                      rw [fr_inc, fr_inc]
                      exact ih _ (n + 1) D _ (p + 3 + rd_w ws (p + 2)) (m + 1) (t + 1) _ bad _ _ _ g2 C hr2 hR (by omega) c4 (by omega) hbq hC mC (hut.tr uC) (hag.tr aC)
                    · have r : ¬ ¬ nI (rd_w ws p) = nI 2 := r
                      rw [c2] at r
                      exact absurd (show ¬ nI 1 = nI 2 by decide) r
            (repeat (first | refine pm_W.ts rfl rfl ?_ | refine pm_W.tl rfl rfl ?_))
            refine pm_W.icmp rfl (fun y => ?_) (fun y => ?_)
            · have y : nI (rd_w ws p) = nI 1 := y
              rw [nI_eq (by omega) (by omega)] at y
              exact entry (Or.inl y)
            · have y : ¬ nI (rd_w ws p) = nI 1 := y
              rw [nI_eq (by omega) (by omega)] at y
              (repeat (first | refine pm_W.ts rfl rfl ?_ | refine pm_W.tl rfl rfl ?_))
              refine pm_W.icmp rfl (fun x => ?_) (fun x => ?_)
              · have x : ¬ nI (rd_w ws p) = nI 2 := x
                rw [nI_eq (by omega) (by omega)] at x
                exact other (fun q => z q.2) (fun q => by have := q.1; unfold rd_ie at this; omega) _
              · have x : ¬ ¬ nI (rd_w ws p) = nI 2 := x
                rw [nI_eq (by omega) (by omega)] at x
                exact entry (Or.inr (Decidable.not_not.mp x))
          · have z : ¬ ¬ nI (rd_w ws p) = nI 9 := z
            rw [nI_eq (by omega) (by omega)] at z
            have h9 : rd_w ws p = 9 := Decidable.not_not.mp z
            have hbq2 : ∀ q, uk_b ws T D p bad = some q → q < 1000 := by
              intro q hq
              cases bad with
              | some q0 => exact hbq q hq
              | none =>
                unfold uk_b at hq
                have hq : (if rd_w ws (p + 1) = tr_cnt (em_c T D) 10 then none else some (p + 1)) = some q := hq
                by_cases c : rd_w ws (p + 1) = tr_cnt (em_c T D) 10
                · rw [if_pos c] at hq; cases hq
                · rw [if_neg c] at hq; cases hq; omega
            have tail : ∀ (c : Bool) (D' : Nat), ((D ≠ 0 ∧ c = true ∧ D' = pa_up D) ∨ (D = 0 ∧ c = false ∧ D' = 0)) → pm_W xs 4 mM_unpack 107 [.ref o, .int (nI n), .int (nI (te_fb T)), .int (nI D), .int (nI (p + 2)), .int (nI p), .int (-1), .int (fr_b c), .int (nI t), .int (nI (rd_w ws p)), v10] [.int (nI D')] g Q := by
              intro c D' hc
              (repeat (first | refine pm_W.ts rfl rfl ?_ | refine pm_W.tl rfl rfl ?_ | refine pm_W.get rfl rfl t1 rfl ?_))
              rw [hmoB.1]
              refine pm_W.icmp rfl (fun y => ?_) (fun y => ?_)
              · have y : nI (p + 2) ≤ nI ws.length := y
                rw [nI_leI (by omega) (by omega)] at y
                (repeat (first | refine pm_W.ts rfl rfl ?_ | refine pm_W.tl rfl rfl ?_ | refine pm_W.get rfl rfl t1 rfl ?_))
                rw [hmoB.1]
                refine pm_W.icmp rfl (fun _ => ?_) (fun x => ?_)
                · (iterate 2 (first | refine pm_W.ts rfl rfl ?_ | refine pm_W.tl rfl rfl ?_))
                  refine pm_W.goto rfl ?_
                  (iterate 1 (first | refine pm_W.ts rfl rfl ?_ | refine pm_W.tl rfl rfl ?_))
                  refine pm_W.goto rfl ?_
                  rw [fr_inc]
                  rcases hc with ⟨c1, c2, c3⟩ | ⟨c1, c2, c3⟩
                  · subst c2
                    subst c3
                    rw [uk_9 (by omega) h9 c1] at hR
                    exact ih T n (pa_up D) (pa_last D) (p + 2) (m + 1) (t + 1) _ _ _ _ _ g B (ur_close hur c1 h9 hby) hR (by omega) y (by omega) hbq2 hB hm10 hut hag
                  · subst c2
                    subst c3
                    subst c1
                    rw [uk_9r (by omega) h9] at hR
                    have huf := ur_uf2 hur h9 hby
                    have hbq3 := hbq2
                    generalize uk_b ws T 0 p bad = bad2 at hR huf hbq3
                    (repeat (first | refine pm_W.ts rfl rfl ?_ | refine pm_W.tl rfl rfl ?_))
                    refine pm_W.icmp rfl (fun x => ?_) (fun _ => ?_)
                    · have x : nI 130 ≤ nI (t + 1) := x
                      rw [nI_leI (by omega) (by omega)] at x
                      omega
                    · (iterate 1 (first | refine pm_W.ts rfl rfl ?_ | refine pm_W.tl rfl rfl ?_))
                      refine pm_W.ifz rfl (fun _ => ?_) (fun x => absurd rfl x)
                      (iterate 1 (first | refine pm_W.ts rfl rfl ?_ | refine pm_W.tl rfl rfl ?_))
                      refine pm_W.ifz rfl (fun x => absurd (show (0 : Int32) ≤ -1 from x) (by decide)) (fun _ => ?_)
                      (repeat (first | refine pm_W.ts rfl rfl ?_ | refine pm_W.tl rfl rfl ?_ | refine pm_W.get rfl rfl t1 rfl ?_))
                      rw [hmoB.1]
                      refine pm_W.icmp rfl (fun x => ?_) (fun x => ?_)
                      · have x : nI ws.length ≤ nI (p + 2) := x
                        rw [nI_leI (by omega) (by omega)] at x
                        (iterate 2 (first | refine pm_W.ts rfl rfl ?_ | refine pm_W.tl rfl rfl ?_))
                        refine fin T n (p + 2) bad2 none _ _ _ _ _ _ _ g B hB hm10 hm0 hV1 hut hag ?_ (fun q e => by cases e) hbq3 huf (by omega)
                        rw [← hR]
                        cases bad2 with
                        | none => show (if p + 2 < ws.length then _ else _) = _; rw [if_neg (by omega)]; rfl
                        | some q0 => rfl
                      · have x : ¬ nI ws.length ≤ nI (p + 2) := x
                        rw [nI_leI (by omega) (by omega)] at x
                        (iterate 1 (first | refine pm_W.ts rfl rfl ?_ | refine pm_W.tl rfl rfl ?_))
                        refine pm_W.goto rfl ?_
                        (iterate 1 (first | refine pm_W.ts rfl rfl ?_ | refine pm_W.tl rfl rfl ?_))
                        refine fin T n (p + 2) bad2 (some (p + 2)) _ _ _ _ _ _ _ g B hB hm10 hm0 hV1 hut hag ?_ (fun q e => by cases e; omega) hbq3 huf (by omega)
                        rw [← hR]
                        cases bad2 with
                        | none => show (if p + 2 < ws.length then _ else _) = _; rw [if_pos (by omega)]; rfl
                        | some q0 => rfl
                · have x : ¬ nI (p + 2) ≤ nI ws.length := x
                  rw [nI_leI (by omega) (by omega)] at x
                  omega
              · have y : ¬ nI (p + 2) ≤ nI ws.length := y
                rw [nI_leI (by omega) (by omega)] at y
                have el : ws.length = p + 1 := by omega
                (iterate 2 (first | refine pm_W.ts rfl rfl ?_ | refine pm_W.tl rfl rfl ?_ | refine pm_W.get rfl rfl t1 rfl ?_))
                rw [hmoB.1]
                refine pm_W.goto rfl ?_
                (repeat (first | refine pm_W.ts rfl rfl ?_ | refine pm_W.tl rfl rfl ?_ | refine pm_W.get rfl rfl t1 rfl ?_))
                rw [hmoB.1]
                refine pm_W.icmp rfl (fun x => ?_) (fun _ => ?_)
                · have x : nI (p + 2) ≤ nI ws.length := x
                  rw [nI_leI (by omega) (by omega)] at x
                  omega
                · (iterate 2 (first | refine pm_W.ts rfl rfl ?_ | refine pm_W.tl rfl rfl ?_ | refine pm_W.get rfl rfl t1 rfl ?_))
                  rw [hmoB.1]
                  refine pm_W.goto rfl ?_
                  (iterate 1 (first | refine pm_W.ts rfl rfl ?_ | refine pm_W.tl rfl rfl ?_))
                  refine pm_W.goto rfl ?_
                  (iterate 1 (first | refine pm_W.ts rfl rfl ?_ | refine pm_W.tl rfl rfl ?_))
                  refine pm_W.goto rfl ?_
                  rw [fr_inc, el]
                  rw [uk_9f hpl (by omega) h9] at hR
                  exact exitF T n (p + 1) (p + 1) (t + 1) (p + 2) c bad _ _ _ _ g B (by omega) (by omega) hB hm10 hm0 hV1 hut hag hR.symm hbq (ur_uf1 hur h9) (by omega)
            (iterate 1 (first | refine pm_W.ts rfl rfl ?_ | refine pm_W.tl rfl rfl ?_))
            rw [show nI p + Int32.ofInt 2 = nI (p + 2) from nI_add p 2]
            (iterate 1 (first | refine pm_W.ts rfl rfl ?_ | refine pm_W.tl rfl rfl ?_))
            refine pm_W.ifz rfl (fun y => ?_) (fun y => ?_)
            · have y : nI D = nI 0 := y
              rw [nI_eq (by omega) (by omega)] at y
              (iterate 3 (first | refine pm_W.ts rfl rfl ?_ | refine pm_W.tl rfl rfl ?_))
              refine pm_W.ifz rfl (fun _ => ?_) (fun x => absurd rfl x)
              (iterate 1 (first | refine pm_W.ts rfl rfl ?_ | refine pm_W.tl rfl rfl ?_))
              exact tail false 0 (Or.inr ⟨y, rfl, rfl⟩)
            · have y : ¬ nI D = nI 0 := y
              rw [nI_eq (by omega) (by omega)] at y
              (iterate 1 (first | refine pm_W.ts rfl rfl ?_ | refine pm_W.tl rfl rfl ?_))
              refine pm_W.goto rfl ?_
              (iterate 2 (first | refine pm_W.ts rfl rfl ?_ | refine pm_W.tl rfl rfl ?_))
              refine pm_W.ifz rfl (fun x => absurd (show (1 : Int32) = 0 from x) (by decide)) (fun _ => ?_)
              (iterate 1 (first | refine pm_W.ts rfl rfl ?_ | refine pm_W.tl rfl rfl ?_))
              refine pm_W.callS (d' := 1) rfl rfl rfl rfl (fr_ble rfl) (fr_ble rfl) (ct_M_up (by omega) (pa_d_pos hV.2.2.2.2.2 y) ?_)
              refine pm_W.goto rfl ?_
              exact tail true (pa_up D) (Or.inl ⟨y, rfl, rfl⟩)
        · have hno : rd_w ws p = 0 := rd_out (by omega)
          (repeat (first | refine pm_W.ts rfl rfl ?_ | refine pm_W.tl rfl rfl ?_))
          refine pm_W.icmp rfl (fun _ => ?_) (fun z => absurd (show ¬ (-1 : Int32) = nI 9 by decide) z)
          (repeat (first | refine pm_W.ts rfl rfl ?_ | refine pm_W.tl rfl rfl ?_))
          refine pm_W.icmp rfl (fun z => absurd (show (-1 : Int32) = nI 1 from z) (by decide)) (fun _ => ?_)
          (repeat (first | refine pm_W.ts rfl rfl ?_ | refine pm_W.tl rfl rfl ?_))
          refine pm_W.icmp rfl (fun _ => ?_) (fun z => absurd (show ¬ (-1 : Int32) = nI 2 by decide) z)
          exact other (fun q => hpl q.1) (fun q => by have := q.1; unfold rd_ie at this; omega) _
  have clear : ∀ (r j : Nat) (g : pm_H) (B : Nat → List Int32), j + r = 10 → mr_R g o B I → (∀ i, i ≠ 3 → B i = A i) → (∀ t, t < 10 → (B 3).getD t 0 = (A 3).getD t 0) → (∀ t, t < j → (B 3).getD (10 + t) 0 = 0) → fr_ag o (o + 15) h g → pm_W xs 4 mM_unpack 3 [.ref o, .int (nI (10 + j)), pm_none, pm_none, pm_none, pm_none, pm_none, pm_none, pm_none, pm_none, pm_none] [] g Q := by
    intro r
    induction r with
    | zero =>
      intro j g B hj hB hr h3 hz hag
      have ej : j = 10 := by omega
      subst ej
      (repeat (first | refine pm_W.ts rfl rfl ?_ | refine pm_W.tl rfl rfl ?_))
      refine pm_W.icmp rfl (fun _ => ?_) (fun z => ?_)
      · (iterate 16 (first | refine pm_W.ts rfl rfl ?_ | refine pm_W.tl rfl rfl ?_))
        have hfb0 : te_fb uk_T0 = 0 := by rw [te_fb_s]; rfl
        have := main 200 uk_T0 0 0 0 0 0 0 [] none (nI 0) pm_none pm_none g B ur_start hRe (by omega) (by omega) (by omega) (fun q e => by cases e) hB (fun e he => ⟨hz e he, fun q => absurd rfl q⟩) ⟨fun j n3 _ _ _ => hr j n3, fun r t r1 r2 ht => ?_, fun t _ => by rw [hr 6 (by omega)]⟩ hag
        · rw [hfb0] at this
          exact this
        · by_cases c : r = 3
          · rw [c]; exact h3 t ht
          · rw [hr r c]
      · have z : ¬ nI 20 ≤ nI (10 + 10) := z
        rw [nI_leI (by omega) (by omega)] at z
        omega
    | succ r ih =>
      intro j g B hj hB hr h3 hz hag
      have t1 := hB.1
      have m3 : (B 3).length = 20 := hB.len (i := 3) rfl rfl
      (repeat (first | refine pm_W.ts rfl rfl ?_ | refine pm_W.tl rfl rfl ?_))
      refine pm_W.icmp rfl (fun z => ?_) (fun _ => ?_)
      · have z : nI 20 ≤ nI (10 + j) := z
        rw [nI_leI (by omega) (by omega)] at z
        omega
      · (repeat (first | refine pm_W.ts rfl rfl ?_ | refine pm_W.tl rfl rfl ?_ | refine pm_W.get rfl rfl t1 rfl ?_))
        refine mr_st (i := 3) (k := 10 + j) hB rfl rfl rfl rfl (show 10 + j < 20 by omega) (fun g2 hB2 a2 => ?_)
        (iterate 1 (first | refine pm_W.ts rfl rfl ?_ | refine pm_W.tl rfl rfl ?_))
        refine pm_W.goto rfl ?_
        rw [fr_inc]
        refine ih (j + 1) g2 _ (by omega) hB2 (fun i hi => by rw [fr_up_n hi]; exact hr i hi) (fun t ht => by rw [fr_up_s, fr_gn (by omega)]; exact h3 t ht) (fun t ht => ?_) (hag.tr a2)
        rw [fr_up_s]
        by_cases c : t = j
        · rw [c, fr_gs (by omega)]; rfl
        · rw [fr_gn (by omega)]
          exact hz t (by omega)
  unfold pm_X
  (iterate 2 (first | refine pm_W.ts rfl rfl ?_ | refine pm_W.tl rfl rfl ?_))
  exact clear 10 0 h A (by omega) hb (fun _ _ => rfl) (fun _ _ => rfl) (fun t ht => absurd ht (Nat.not_lt_zero _)) fr_ag.rf
end MUNPACK
