section MSCAN
variable {xs : List Int32} {h : pm_H} {o : Nat} {A B : Nat → List Int32} {I : Nat → Int32} {z : cz_N} {sd : Nat → List Int32 × dp_P} {Q : Option Value → pm_H → Prop}
theorem mc_ml {l l' : Nat} {ps : dp_P} (hc : mc_ag A (fr_up B 7 (A 7)) l) (h7 : ∀ j, j ≠ l → (B 7).getD j 0 = (A 7).getD j 0) (hl : l' ≠ l) (hm : ml A l' ps) : ml B l' ps := by
  obtain ⟨m1, m2, m3⟩ := hm
  refine ⟨by rw [h7 l' hl]; exact m1, m2, fun k hk => ?_⟩
  obtain ⟨a1, a2, a3⟩ := m3 k hk
  have e8 := hc.2 8 (16 * l' + k) (by omega) (by omega) (by omega)
  have e9 := hc.2 9 (16 * l' + k) (by omega) (by omega) (by omega)
  have e10 := hc.2 10 (16 * l' + k) (by omega) (by omega) (by omega)
  rw [fr_up_n (by omega)] at e8 e9 e10
  rw [e8, e9, e10]
  exact ⟨a1, a2, a3⟩
theorem mc_row {l i : Nat} (hc : mc_ag A (fr_up B 7 (A 7)) l) (hi : i < 7 ∨ 10 < i) : B i = A i := by
  have := hc.1 i (by omega)
  rw [fr_up_n (by omega)] at this
  exact this
theorem ct_M_scan {x : Int32} (hb : mr_R h o A I) (hm : mse A sd) (hI : mI I z) (hz : cz_ok z) (k1 : ∀ i : Nat, i < 2 → x = nI i → ∀ (g : pm_H) (B : Nat → List Int32), mr_R g o B I → mse B (fr_up sd i ((sd i).1, (cz_cut z (sd i).1 (sd i).1.length).1)) → mc_ag A (fr_up B 7 (A 7)) (5 + i) → (∀ j, j ≠ 5 + i → (B 7).getD j 0 = (A 7).getD j 0) → fr_ag o (o + 15) h g → Q (some (.int (nI (cz_cut z (sd i).1 (sd i).1.length).1.length))) g)
    (k0 : (∀ i : Nat, i < 2 → x ≠ nI i) → Q (some (.int (-1))) h) : pm_X xs 3 mM_scan [.ref o, .int x] h Q := by
  have h1 := hb.1
  have main : ∀ i, i < 2 → x = nI i → pm_W xs 3 mM_scan 11 [.ref o, .int x] [] h Q := by
    intro i hi e
    subst e
    obtain ⟨s1, s2, s3, s4⟩ := hm i hi
    (repeat (first | refine pm_W.ts rfl rfl ?_ | refine pm_W.tl rfl rfl ?_ | refine pm_W.get rfl rfl h1 rfl ?_))
    refine mr_ld (i := 2) hb rfl rfl rfl rfl (show i < 2 from hi) ?_
    rw [s1]
    (iterate 3 (first | refine pm_W.ts rfl rfl ?_ | refine pm_W.tl rfl rfl ?_))
    have ex : nI 240 + nI 120 * nI i = nI (240 + 120 * i) := by rw [fr_mul, nI_add]
    have ex2 : nI 5 + nI i = nI (5 + i) := nI_add 5 i
    show pm_W xs 3 mM_scan _ _ [.int (nI 5 + nI i), .int (nI (sd i).1.length), .int (nI 240 + nI 120 * nI i), .ref o] h Q
    rw [ex, ex2]
    refine pm_W.callV (d' := 2) (as := [.int (nI (240 + 120 * i)), .int (nI (sd i).1.length), .int (nI (5 + i))]) rfl rfl rfl rfl (fr_ble rfl) h1 (fr_ble rfl) (ct_M_cut hb hI hz s3 s2 (by omega) (by omega) (fun g B hB b1 b2 b3 hag => ?_))
    have t1 := hB.1
    (repeat (first | refine pm_W.ts rfl rfl ?_ | refine pm_W.tl rfl rfl ?_ | refine pm_W.get rfl rfl t1 rfl ?_))
    rw [show Int32.ofInt 5 + nI i = nI (5 + i) from nI_add 5 i]
    refine mr_ld (i := 7) hB rfl rfl rfl rfl (show 5 + i < 7 by omega) ?_
    rw [b1.1]
    refine pm_W.iret rfl rfl (k1 i hi rfl g B hB (fun s hs => ?_) b2 b3 hag)
    obtain ⟨u1, u2, u3, u4⟩ := hm s hs
    have r2 : B 2 = A 2 := mc_row b2 (by omega)
    have r1 : B 1 = A 1 := mc_row b2 (by omega)
    unfold mb
    rw [r1, r2]
    by_cases cs : s = i
    · subst cs
      rw [fr_up_s]
      exact ⟨u1, u2, u3, b1⟩
    · rw [fr_up_n cs]
      exact ⟨u1, u2, u3, mc_ml b2 b3 (by omega) u4⟩
  unfold pm_X
  (repeat (first | refine pm_W.ts rfl rfl ?_ | refine pm_W.tl rfl rfl ?_))
  refine pm_W.ifz rfl (fun c => main 0 (by omega) c) (fun c => ?_)
  (repeat (first | refine pm_W.ts rfl rfl ?_ | refine pm_W.tl rfl rfl ?_))
  refine pm_W.icmp rfl (fun c2 => main 1 (by omega) c2) (fun c2 => ?_)
  (repeat (first | refine pm_W.ts rfl rfl ?_ | refine pm_W.tl rfl rfl ?_))
  refine pm_W.iret rfl rfl (k0 (fun i hi e => ?_))
  match i, hi with
  | 0, _ => exact c e
  | 1, _ => exact c2 e
  | n + 2, hi => omega
end MSCAN
