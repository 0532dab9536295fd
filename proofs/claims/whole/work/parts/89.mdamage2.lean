section MDAMAGE2
variable {xs : List Int32} {h : pm_H} {o : Nat} {A B : Nat → List Int32} {I : Nat → Int32} {im : Nat → dp_P} {st ca : dp_K} {Q : Option Value → pm_H → Prop}
theorem ct_M_damage {x y kk a v : Int32} (hb : mr_R h o A I) (hm : mi A im) (hs : mk A (40 * 0) st) (hI5 : I 5 = nI st.length) (hl5 : st.length ≤ 40) (hc : mk A (40 * 1) ca) (hI6 : I 6 = nI ca.length) (hl6 : ca.length ≤ 6)
    (k1 : ∀ i k : Nat, i < 4 → y = nI i → k < (im i).length → kk = nI k → x = 0 → ∀ L' : dp_K, dm_R st (pl_i (im i) k) a v L' → ∀ (g : pm_H) (B : Nat → List Int32), mr_R g o B (fr_up I 5 (nI L'.length)) → mk B (40 * 0) L' → mq_ag 0 A B → fr_ag o (o + 15) h g → Q (some (.int 1)) g)
    (k2 : ∀ i k : Nat, i < 4 → y = nI i → k < (im i).length → kk = nI k → x = 1 → ∀ L' : dp_K, dm_R ca (pl_i (im i) k) a v L' → ∀ (g : pm_H) (B : Nat → List Int32), mr_R g o B (fr_up I 6 (nI L'.length)) → mk B (40 * 1) L' → mq_ag 1 A B → fr_ag o (o + 15) h g → Q (some (.int 1)) g)
    (k0 : (∀ i k : Nat, i < 4 → y = nI i → k < (im i).length → kk = nI k → (x = 0 → ∀ L' : dp_K, ¬ dm_R st (pl_i (im i) k) a v L') ∧ (x = 1 → ∀ L' : dp_K, ¬ dm_R ca (pl_i (im i) k) a v L')) → Q (some (.int 0)) h) : pm_X xs 2 mM_damage [.ref o, .int x, .int y, .int kk, .int a, .int v] h Q := by
  have h1 := hb.1
  have no : (∀ i k : Nat, i < 4 → y = nI i → k < (im i).length → kk = nI k → (x = 0 → ∀ L' : dp_K, ¬ dm_R st (pl_i (im i) k) a v L') ∧ (x = 1 → ∀ L' : dp_K, ¬ dm_R ca (pl_i (im i) k) a v L')) → pm_W xs 2 mM_damage 18 [.ref o, .int x, .int y, .int kk, .int a, .int v, pm_none] [] h Q := by
    intro c
    (repeat (first | refine pm_W.ts rfl rfl ?_ | refine pm_W.tl rfl rfl ?_))
    exact pm_W.iret rfl rfl (k0 c)
  have un : ∀ {i k i2 k2 : Nat}, i < 4 → i2 < 4 → k < (im i).length → k2 < (im i2).length → nI i = nI i2 → nI k = nI k2 → i2 = i ∧ k2 = k := by
    intro i k i2 k2 u1 u2 u3 u4 u5 u6
    rw [nI_eq (by omega) (by omega)] at u5
    subst u5
    have hne : im i ≠ [] := by intro z; rw [z] at u3; exact absurd u3 (Nat.not_lt_zero _)
    have l2 := ((hm i u1).2.1 hne).2.1
    rw [nI_eq (by omega) (by omega)] at u6
    exact ⟨rfl, u6.symm⟩
  have main : (x = 0 ∨ x = 1) → pm_W xs 2 mM_damage 9 [.ref o, .int x, .int y, .int kk, .int a, .int v, pm_none] [] h Q := by
    intro hx
    (repeat (first | refine pm_W.ts rfl rfl ?_ | refine pm_W.tl rfl rfl ?_))
    refine pm_W.callV (d' := 1) (as := [.int y, .int kk]) rfl rfl rfl rfl (fr_ble rfl) h1 (fr_ble rfl) (ct_M_has hb hm (fun i k hi e hk e2 => ?_) (fun hno => ?_))
    · refine pm_W.ifz rfl (fun _ => ?_) (fun z => absurd (show ¬ (1 : Int32) = 0 by decide) z)
      subst e e2
      rcases hx with rfl | rfl
      · refine ct_M_damageK (q := 0) hb hm hs (Or.inl ⟨rfl, hI5, hl5⟩) hi hk (fun L' z g B c1 c2 c3 c4 => k1 i k hi rfl hk rfl rfl L' z g B c1 c2 c3 c4) (fun z => k0 (fun i2 k2 e1 e2 e3 e4 => ⟨fun _ => ?_, fun w => absurd w (by decide)⟩))
        obtain ⟨rfl, rfl⟩ := un hi e1 hk e3 e2 e4
        exact z
      · refine ct_M_damageK (q := 1) hb hm hc (Or.inr ⟨rfl, hI6, hl6⟩) hi hk (fun L' z g B c1 c2 c3 c4 => k2 i k hi rfl hk rfl rfl L' z g B c1 c2 c3 c4) (fun z => k0 (fun i2 k2 e1 e2 e3 e4 => ⟨fun w => absurd w (by decide), fun _ => ?_⟩))
        obtain ⟨rfl, rfl⟩ := un hi e1 hk e3 e2 e4
        exact z
    · refine pm_W.ifz rfl (fun z => absurd (show (0 : Int32) = 0 from rfl) z) (fun _ => no (fun i k e1 e2 e3 e4 => absurd e4 (hno i k e1 e2 e3)))
  unfold pm_X
  (repeat (first | refine pm_W.ts rfl rfl ?_ | refine pm_W.tl rfl rfl ?_))
  refine pm_W.ifz rfl (fun c => main (Or.inl c)) (fun c => ?_)
  (repeat (first | refine pm_W.ts rfl rfl ?_ | refine pm_W.tl rfl rfl ?_))
  refine pm_W.icmp rfl (fun c2 => no (fun i k _ _ _ _ => ⟨fun w => absurd w c, fun w => absurd w c2⟩)) (fun c2 => main (Or.inr (Decidable.not_not.mp c2)))
end MDAMAGE2
