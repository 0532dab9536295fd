def pm_Cx (p : Program) (s : State) (mi : MethodId) (args : Array Value) (meth : Method) (c : Code) (m B b : Nat) (xs : List Int32) (D : va_G) (cI : Bool → ClassId) (cR : Nat → ClassId) : Prop :=
  p.tables.exec = Jvm.exec ∧ c.code = pm_code m ∧ s.vm.findClass (pm_cn (pm_own m)) = some mi.cls ∧ (pm_init m = true → meth.name = "<init>") ∧ (∀ w ∈ pm_words, w.before args s = true) ∧ (∀ w ∈ pm_nest, va_Nw w s) ∧ va_K D vwCl (pm_tys cI cR) s ∧ va_X b xs.length (fun j => xs.getD j 0) s s.heap ∧ b < B ∧ B ≤ s.heap.size
section HPK
variable {p : Program} {l : Launch} {e : Env} {R : Room} {s : State} {mi : MethodId} {args : Array Value} {below : List Frame} {meth : Method} {c : Code} {H : Heap} {locs : List Loc} {Q : State → Prop}
variable {pc m : Nat} {ls : Array Slot} {B b : Nat} {D : va_G} {cI : Bool → ClassId} {cR : Nat → ClassId} {h h0 h1 : pm_H} {st st' : List Value} {xs : List Int32} {i : Instr}
theorem pm_sm_ren {rest : List Value} (hs : pm_sm rest = true) : ((rest.map (pm_ren B b)).map fun v => v.category).sum ≤ 8 := by
  have h1 : (rest.map (pm_ren B b)).map (fun v => v.category) = rest.map (fun v => v.category) := by
    rw [List.map_map]
    congr 1
    funext v
    exact pm_ren_cat B b v
  rw [h1]
  exact of_decide_eq_true hs
set_option maxHeartbeats 4000000 in
theorem pm_hp_ok (hC : pm_Cx p s mi args meth c m B b xs D cI cR) (hml : c.maxLocals = ls.size) (hd : decode (pm_code m) pc = .ok (i, pm_len pc i)) (hfr : 1 ≤ R.frames) (hlo : 36 ≤ R.locals)
    (hz0 : s.heap.size = B + h0.1.length) (hle : pm_gr h0 h) (hc1 : h1.1.length ≤ h0.1.length + R.cells) (hs1 : h1.2 ≤ h0.2 + R.slots) (hP : va_P D vwCl (pm_emb cI cR B b h.1) H) (hS : va_S (fun q => B ≤ q) s.heap H locs)
    (ev : pm_hp m i st h xs = some (st', h1))
    (k : ∀ (H1 : Heap) (locs1 : List Loc), va_P D vwCl (pm_emb cI cR B b h1.1) H1 → va_S (fun q => B ≤ q) s.heap H1 locs1 → W p l e R s mi args below meth c H1 locs1 (h1.1.length - h0.1.length) (h1.2 - h0.2) Q (F0 mi (pc + pm_len pc i) ls (st'.map (pm_ren B b)))) :
    W p l e R s mi args below meth c H locs (h.1.length - h0.1.length) (h.2 - h0.2) Q (F0 mi pc ls (st.map (pm_ren B b))) := by
  obtain ⟨hx, hb, hown, hin, hts, hns, hK, hX, hbB, hBs⟩ := hC
  obtain ⟨le1, le2⟩ := hle
  have hz : s.heap.size + (h.1.length - h0.1.length) = B + h.1.length := by omega
  unfold pm_hp at ev
  split at ev
  ·
    obtain ⟨ci, kk, a, rest, fs, v, q1, rfl, q2, q3, rfl, rfl⟩ := pm_hget_ok ev
    exact pm_o_get (m := m) (h := h1) (rest := rest.map (pm_ren B b)) hx hb hown hts hns hK hP q1 q2 q3 hd (k H locs hP hS)
  ·
    obtain ⟨ci, kk, a, fs, v, q1, rfl, q2, q3, q4, q5, rfl⟩ := pm_hput_ok ev
    refine pm_o_put (m := m) (h := h) (rest := st'.map (pm_ren B b)) hx hb hown hin hts hns hK hP hS q1 q2 q3 q4 q5 hd fun H1 locs1 z1 z2 => ?_
    refine W.cs ?_ rfl (k H1 locs1 z1 z2)
    simp only [List.length_set]
  ·
    rcases pm_hiald_ok ev with ⟨j, a, kk, rest, ys, rfl, q1, q2, rfl, rfl⟩ | ⟨j, kk, rest, rfl, q2, rfl, rfl⟩
    · exact pm_o_iald (h := h1) (rest := rest.map (pm_ren B b)) hx hb hK hP q1 q2 hd (k H locs hP hS)
    · obtain ⟨i1, i2, i3⟩ := pm_ix_spec q2
      exact va_sld (A := fun q => B ≤ q) (rest := rest.map (pm_ren B b)) hx hb hX (by omega) (by show ¬ B ≤ b; omega) hS i1 hd (by rw [i2]; exact k H locs hP hS)
  ·
    obtain ⟨v, j, a, kk, ys, rfl, q1, q2, rfl⟩ := pm_hiast_ok ev
    refine pm_o_iast (h := h) (rest := st'.map (pm_ren B b)) hx hb hK hP hS q1 q2 hd fun H1 locs1 z1 z2 => ?_
    refine W.cs ?_ rfl (k H1 locs1 z1 z2)
    simp only [List.length_set]
  ·
    obtain ⟨j, a, kk, t, rest, rs, rfl, q1, q2, q3, rfl, rfl⟩ := pm_haald_ok ev
    exact pm_o_aald (h := h1) (rest := rest.map (pm_ren B b)) hx hb hK hP q1 q3 q2 hd (k H locs hP hS)
  ·
    rcases pm_haast_ok ev with ⟨j, v, a, kk, t, rs, vs, rfl, q1, q2, q3, q4, rfl⟩ | ⟨j, a, kk, t, rs, rfl, q1, q3, q4, rfl⟩
    · refine pm_o_aast (h := h) (rest := st'.map (pm_ren B b)) hx hb hK hP hS q1 q4 (pm_f14 q4) q2 q3 hd fun H1 locs1 z1 z2 => ?_
      refine W.cs ?_ rfl (k H1 locs1 z1 z2)
      simp only [List.length_set]
    · refine pm_o_aastN (h := h) (rest := st'.map (pm_ren B b)) hx hb hK hP hS q1 q4 q3 hd fun H1 locs1 z1 z2 => ?_
      refine W.cs ?_ rfl (k H1 locs1 z1 z2)
      simp only [List.length_set]
  ·
    rcases pm_halen_ok ev with ⟨a, rest, ys, rfl, q1, rfl, rfl⟩ | ⟨a, t, rest, rs, rfl, q1, q2, rfl, rfl⟩ | ⟨rest, rfl, rfl, rfl⟩
    · exact pm_o_alen (h := h1) (rest := rest.map (pm_ren B b)) hx hb hK hP q1 hd (k H locs hP hS)
    · exact pm_o_alenR (h := h1) (rest := rest.map (pm_ren B b)) hx hb hK hP q1 q2 hd (k H locs hP hS)
    · exact va_slen (A := fun q => B ≤ q) (rest := rest.map (pm_ren B b)) hx hb hX (by omega) (by show ¬ B ≤ b; omega) hS hd (k H locs hP hS)
  ·
    obtain ⟨ci, fs, q1, rfl, rfl⟩ := pm_hnew_ok ev
    simp only [List.length_append, List.length_cons, List.length_nil] at hc1 hs1
    refine pm_o_new (m := m) (h := h) (rest := st.map (pm_ren B b)) hx hb hown hts hK hP hS hBs hz q1 (by omega) (by omega) hd fun H1 z1 z2 => ?_
    refine W.cs ?_ ?_ (k H1 locs z1 z2)
    · simp only [List.length_append, List.length_cons, List.length_nil]; omega
    · show _ = h.2 + fs.length - h0.2; omega
  ·
    obtain ⟨n, rest, rfl, q1, q2, rfl, rfl⟩ := pm_hnewa_ok ev
    simp only [List.length_append, List.length_cons, List.length_nil] at hc1 hs1
    refine pm_o_newa (h := h) (rest := rest.map (pm_ren B b)) hx hb hts hK hP hS hBs hz q1 q2 (by omega) (by omega) hd fun H1 z1 z2 => ?_
    refine W.cs ?_ ?_ (k H1 locs z1 z2)
    · simp only [List.length_append, List.length_cons, List.length_nil]; omega
    · show _ = h.2 + n.toNatClampNeg - h0.2; omega
  ·
    obtain ⟨n, rest, rfl, q1, q2, rfl, rfl⟩ := pm_hnewa_ok ev
    simp only [List.length_append, List.length_cons, List.length_nil] at hc1 hs1
    refine pm_o_newz (h := h) (rest := rest.map (pm_ren B b)) hx hb hts hK hP hS hBs hz q1 q2 (by omega) (by omega) hd fun H1 z1 z2 => ?_
    refine W.cs ?_ ?_ (k H1 locs z1 z2)
    · simp only [List.length_append, List.length_cons, List.length_nil]; omega
    · show _ = h.2 + n.toNatClampNeg - h0.2; omega
  ·
    obtain ⟨j, a, kk, rest, ys, rfl, q1, q2, rfl, rfl⟩ := pm_hbald_ok ev
    exact pm_o_bald (h := h1) (rest := rest.map (pm_ren B b)) hx hb hK hP q1 q2 hd (k H locs hP hS)
  ·
    obtain ⟨v, j, a, kk, ys, rfl, q1, q2, q3, rfl⟩ := pm_hbast_ok ev
    refine pm_o_bast (h := h) (rest := st'.map (pm_ren B b)) hx hb hK hP hS q1 q2 q3 hd fun H1 locs1 z1 z2 => ?_
    refine W.cs ?_ rfl (k H1 locs1 z1 z2)
    simp only [List.length_set]
  ·
    obtain ⟨t, n, rest, q0, rfl, q1, q2, rfl, rfl⟩ := pm_hanew_ok ev
    simp only [List.length_append, List.length_cons, List.length_nil] at hc1 hs1
    refine pm_o_anew (m := m) (h := h) (rest := rest.map (pm_ren B b)) hx hb hown hts hns hK hP hS hBs hz q0 q1 q2 (by omega) (by omega) hd fun H1 z1 z2 => ?_
    refine W.cs ?_ ?_ (k H1 locs z1 z2)
    · simp only [List.length_append, List.length_cons, List.length_nil]; omega
    · show _ = h.2 + n.toNatClampNeg - h0.2; omega
  ·
    obtain ⟨v, q1, rfl, rfl⟩ := pm_hcon_ok ev
    obtain ⟨x, rfl, q2⟩ := pm_f5 q1
    exact lv_ldc hx hb hown (hts _ q2) hd (k H locs hP hS)
  ·
    obtain ⟨v, q1, rfl, rfl⟩ := pm_hcon_ok ev
    obtain ⟨x, rfl, q2⟩ := pm_f5b q1
    exact lv_ldc2 hx hb hown (hts _ q2) hd (k H locs hP hS)
  ·
    obtain ⟨a, rest, ys, rfl, q1, q2, rfl, rfl⟩ := pm_hcast_ok ev
    have hcI : s.vm.findClass "[I" = some (cI false) := va_nm_int (hK.2 0 (cI false, .int) rfl).2
    exact va_castA (rest := rest.map (pm_ren B b)) hx hb hown (hts _ (pm_f13 q2)) hP a (pm_emb_at q1) hcI hd (k H locs hP hS)
  ·
    obtain ⟨a, rfl, q1, q2, rfl⟩ := pm_hobj_ok ev
    obtain ⟨w1, w2, w3⟩ := pm_f9 q1
    have hsm := pm_sm_ren (B := B) (b := b) q2
    exact W.objInit (g := F0 mi pc ls (.ref (B + a) :: st'.map (pm_ren B b))) hx hb hown (hts _ w1) (hts _ w2) (hts _ w3) rfl hml.symm rfl hd hfr (by show 2 * 0 + _ + 12 ≤ _; omega) (k H locs hP hS)
  ·
    obtain ⟨x, y, rest, rfl, q2, rfl, q3⟩ := pm_hmax_ok ev
    have hsm := pm_sm_ren (B := B) (b := b) q2
    rcases q3 with ⟨q1, rfl⟩ | ⟨q1, rfl⟩
    · obtain ⟨w1, w2, w3, w4⟩ := pm_f10 q1
      exact va_mmax (rest := rest.map (pm_ren B b)) hx hb hml hown (hts _ w1) (hts _ w2) (hts _ w3) (hts _ w4) hfr (by omega) (by omega) (by omega) hd (k H locs hP hS)
    · obtain ⟨w1, w2, w3, w4⟩ := pm_f11 q1
      exact va_mmin (rest := rest.map (pm_ren B b)) hx hb hml hown (hts _ w1) (hts _ w2) (hts _ w3) (hts _ w4) hfr (by omega) (by omega) (by omega) hd (k H locs hP hS)
  ·
    obtain ⟨a, rest, ys, rfl, q1, q2, q3, rfl, rfl⟩ := pm_hclone_ok ev
    obtain ⟨w1, w2, w3, w4, w5, w6⟩ := pm_f12 q2
    have hsm := pm_sm_ren (B := B) (b := b) q3
    have hcI : s.vm.findClass "[I" = some (cI false) := va_nm_int (hK.2 0 (cI false, .int) rfl).2
    simp only [List.length_append, List.length_cons, List.length_nil] at hc1 hs1
    refine va_clone (rest := rest.map (pm_ren B b)) hx hb hml hown (hts _ w1) (hts _ w2) (hts _ w3) (hts _ w4) (hts _ w5) (hns _ w6) hK hP pm_D hS (fun q z => Nat.le_trans hBs z) a 0 (pm_emb_at q1) (ty := .int) rfl hcI (fun i v hv => va_fit (ty := .int) (fun _ _ => rfl) i v hv) hfr (by omega) (by omega) (by show _ + ys.length ≤ _; omega) hd fun q H1 k1 z1 z2 z3 => ?_
    refine pm_grow (g := fun q => F0 mi (pc + 3) ls (.ref q :: rest.map (pm_ren B b))) (x := .inl (false, ys)) rfl hz z1 z2 (fun z => ?_)
    refine W.cs ?_ ?_ (k H1 locs z z3)
    · simp only [List.length_append, List.length_cons, List.length_nil]; omega
    · show _ + ys.length = h.2 + ys.length - h0.2; omega
  · cases ev
end HPK
