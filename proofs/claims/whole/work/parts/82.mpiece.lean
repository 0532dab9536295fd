set_option maxRecDepth 20000 in
theorem pc_mul {e : Nat} (he : e < 128) : (nI e).toInt64 * 4294967296 = (nI e).toInt64 <<< ((32 : Int32).toInt64 &&& 63) := by
  have : ∀ e, e < 128 → (nI e).toInt64 * 4294967296 = (nI e).toInt64 <<< ((32 : Int32).toInt64 &&& 63) := by decide
  exact this e he
section MPIECE
variable {xs : List Int32} {h : pm_H} {o : Nat} {A : Nat → List Int32} {I : Nat → Int32} {im : Nat → dp_P} {Q : Option Value → pm_H → Prop}
theorem ct_M_piece {x y : Int32} (hb : mr_R h o A I) (hm : mi A im) (hV : ∀ i, i < 4 → pl_V (im i) 117) (k1 : ∀ i k : Nat, i < 4 → x = nI i → k < (im i).length → y = nI k → Q (some (.long (dp_pc (pl_e (im i) k) (pl_i (im i) k)))) h) (k0 : (∀ i k : Nat, i < 4 → x = nI i → k < (im i).length → y ≠ nI k) → Q (some (.long (-1))) h) : pm_X xs 2 mM_piece [.ref o, .int x, .int y] h Q := by
  have h1 := hb.1
  unfold pm_X
  (repeat (first | refine pm_W.ts rfl rfl ?_ | refine pm_W.tl rfl rfl ?_))
  refine pm_W.callV (d' := 1) (as := [.int x, .int y]) rfl rfl rfl rfl (fr_ble rfl) h1 (fr_ble rfl) (ct_M_has hb hm (fun i k hi e hk e2 => ?_) (fun hno => ?_))
  · refine pm_W.ifz rfl (fun _ => ?_) (fun z => absurd (show ¬ (1 : Int32) = 0 by decide) z)
    subst e e2
    have hne : im i ≠ [] := by intro z; rw [z] at hk; exact absurd hk (Nat.not_lt_zero _)
    obtain ⟨-, g2, -⟩ := hm i hi
    obtain ⟨l1, l2, l3⟩ := g2 hne
    obtain ⟨a1, a2, a3⟩ := l3 k hk
    obtain ⟨v1, v2, v3⟩ := hV i hi k hk
    have ex : nI 16 * (nI 1 + nI i) + nI k = nI (16 * (1 + i) + k) := by rw [nI_add, fr_mul, nI_add]
    (iterate 7 (first | refine pm_W.ts rfl rfl ?_ | refine pm_W.tl rfl rfl ?_))
    show pm_W xs 2 mM_piece _ _ [.int (nI 16 * (nI 1 + nI i) + nI k)] h Q
    rw [ex]
    (repeat (first | refine pm_W.ts rfl rfl ?_ | refine pm_W.tl rfl rfl ?_ | refine pm_W.get rfl rfl h1 rfl ?_))
    refine mr_ld (i := 8) hb rfl rfl rfl rfl (show 16 * (1 + i) + k < 112 by omega) ?_
    rw [a1]
    (repeat (first | refine pm_W.ts rfl rfl ?_ | refine pm_W.tl rfl rfl ?_ | refine pm_W.get rfl rfl h1 rfl ?_))
    refine mr_ld (i := 9) hb rfl rfl rfl rfl (show 16 * (1 + i) + k < 112 by omega) ?_
    rw [a2]
    (iterate 1 (first | refine pm_W.ts rfl rfl ?_ | refine pm_W.tl rfl rfl ?_))
    rw [nI_add, show pl_s (im i) k + ex_n (im i) k = pl_e (im i) k by unfold ex_n; omega]
    (iterate 1 (first | refine pm_W.ts rfl rfl ?_ | refine pm_W.tl rfl rfl ?_))
    refine pm_W.ldc2 rfl rfl ?_
    (repeat (first | refine pm_W.ts rfl rfl ?_ | refine pm_W.tl rfl rfl ?_ | refine pm_W.get rfl rfl h1 rfl ?_))
    refine mr_ld (i := 10) hb rfl rfl rfl rfl (show 16 * (1 + i) + k < 112 by omega) ?_
    rw [a3]
    (repeat (first | refine pm_W.ts rfl rfl ?_ | refine pm_W.tl rfl rfl ?_))
    refine pm_W.ldc2 rfl rfl ?_
    (repeat (first | refine pm_W.ts rfl rfl ?_ | refine pm_W.tl rfl rfl ?_))
    refine pm_W.lret rfl rfl ?_
    have e := k1 i k hi rfl hk rfl
    unfold dp_pc at e
    rw [← pc_mul (by omega)] at e
    exact e
  · refine pm_W.ifz rfl (fun z => absurd (show (0 : Int32) = 0 from rfl) z) (fun _ => ?_)
    refine pm_W.ldc2 rfl rfl ?_
    exact pm_W.lret rfl rfl (k0 hno)
end MPIECE
