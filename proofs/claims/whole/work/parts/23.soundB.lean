theorem pm_01 {x : Int32} (h : (x == 0 || x == 1) = true) : x = 0 ∨ x = 1 := by
  simpa using h
theorem pm_ok_ren {B b : Nat} {ty : FieldType} {v : Value} (h : pm_ok ty v = true) : narrow ty (pm_ren B b v) = pm_ren B b v ∧ fits ty (pm_ren B b v) = true := by
  cases ty <;> cases v <;> first
    | exact ⟨rfl, rfl⟩
    | (rcases pm_01 h with rfl | rfl <;> exact ⟨rfl, rfl⟩)
    | (cases h; done)
section HP
variable {p : Program} {l : Launch} {e : Env} {R : Room} {s : State} {mi : MethodId} {args : Array Value} {below : List Frame} {meth : Method} {c : Code} {H : Heap} {locs : List Loc} {cells slots : Nat} {Q : State → Prop}
variable {cc : ByteArray} {pc m : Nat} {ls : Array Slot} {B b : Nat} {D : va_G} {cI : Bool → ClassId} {cR : Nat → ClassId} {h : pm_H} {rest : List Value}
theorem pm_o_get {idx a k ci : Nat} {fs : List Value} {v : Value} (hx : p.tables.exec = Jvm.exec) (hb : c.code = cc) (hown : s.vm.findClass (pm_cn (pm_own m)) = some mi.cls) (hts : ∀ w ∈ pm_words, w.before args s = true) (hns : ∀ w ∈ pm_nest, va_Nw w s) (hK : va_K D vwCl (pm_tys cI cR) s) (hP : va_P D vwCl (pm_emb cI cR B b h.1) H)
    (hf : pm_fld (pm_own m) idx = some (ci, k)) (ha : h.1[a]? = some (.inr (.inr (ci, fs)))) (hv : fs[k]? = some v) (hd : decode cc pc = .ok (.getfield idx, 3))
    (kk : W p l e R s mi args below meth c H locs cells slots Q (F0 mi (pc + 3) ls (pm_ren B b v :: rest))) : W p l e R s mi args below meth c H locs cells slots Q (F0 mi pc ls (.ref (B + a) :: rest)) := by
  obtain ⟨g1, g2, g3, -, g4, -⟩ := pm_f1 hf
  have he := pm_emb_at (cI := cI) (cR := cR) (B := B) (b := b) ha
  have hv' : (fs.map (pm_ren B b))[k]? = some (pm_ren B b v) := by rw [List.getElem?_map, hv]; rfl
  rcases g4 with g4 | ⟨host, g4⟩
  · exact va_get hx hb hts (pm_f2 g1).1 hown hK hP a he g1 k g2 (hts _ g4) (fun x q => by rw [← g3]; exact q) hv' hd kk
  · exact va_getN hx hb hts (pm_f2 g1).1 hown hK hP a he g1 k g2 (va_Nw.use rfl (hns _ g4)) (fun x q => by rw [← g3]; exact q) hv' hd kk
theorem pm_o_put {idx a k ci : Nat} {fs : List Value} {v : Value} {H0 : Heap} (hx : p.tables.exec = Jvm.exec) (hb : c.code = cc) (hown : s.vm.findClass (pm_cn (pm_own m)) = some mi.cls) (hin : pm_init m = true → meth.name = "<init>") (hts : ∀ w ∈ pm_words, w.before args s = true) (hns : ∀ w ∈ pm_nest, va_Nw w s) (hK : va_K D vwCl (pm_tys cI cR) s) (hP : va_P D vwCl (pm_emb cI cR B b h.1) H) (hS : va_S (fun q => B ≤ q) H0 H locs)
    (hf : pm_fld (pm_own m) idx = some (ci, k)) (ha : h.1[a]? = some (.inr (.inr (ci, fs)))) (hl : k < fs.length) (hok : pm_ok (pm_fty ci k) v = true) (hfin : pm_fin ci k = false ∨ (pm_init m = true ∧ pm_own m = ci)) (hd : decode cc pc = .ok (.putfield idx, 3))
    (kk : ∀ (H1 : Heap) (locs1 : List Loc), va_P D vwCl (pm_emb cI cR B b (h.1.set a (.inr (.inr (ci, fs.set k v))))) H1 → va_S (fun q => B ≤ q) H0 H1 locs1 → W p l e R s mi args below meth c H1 locs1 cells slots Q (F0 mi (pc + 3) ls rest)) : W p l e R s mi args below meth c H locs cells slots Q (F0 mi pc ls (pm_ren B b v :: .ref (B + a) :: rest)) := by
  obtain ⟨g1, g2, g3, g5, g4, g6⟩ := pm_f1 hf
  obtain ⟨f1, f2, f3⟩ := pm_f2 g1
  have he := pm_emb_at (cI := cI) (cR := cR) (B := B) (b := b) ha
  obtain ⟨o1, o2⟩ := pm_ok_ren (B := B) (b := b) hok
  have hl' : k < (fs.map (pm_ren B b)).length := by rw [List.length_map]; exact hl
  have kk' : ∀ (H1 : Heap) (locs1 : List Loc), va_P D vwCl ((pm_emb cI cR B b h.1).set a (B + a, .inr (ci, (fs.map (pm_ren B b)).set k (pm_ren B b v)))) H1 → va_D (fun q => B ≤ q) ((pm_emb cI cR B b h.1).set a (B + a, .inr (ci, (fs.map (pm_ren B b)).set k (pm_ren B b v)))) → va_S (fun q => B ≤ q) H0 H1 locs1 → W p l e R s mi args below meth c H1 locs1 cells slots Q (F0 mi (pc + 3) ls rest) := by
    intro H1 locs1 q1 _ q3
    refine kk H1 locs1 ?_ q3
    rw [pm_emb_set]
    show va_P D vwCl ((pm_emb cI cR B b h.1).set a (B + a, .inr (ci, (fs.set k v).map (pm_ren B b)))) H1
    rw [List.map_set]
    exact q1
  have hsame : ∀ x, s.fieldFound? (pm_T ci k).1 (pm_T ci k).2.1 (pm_T ci k).2.2.1 = some x → s.fieldFound? (pm_cn ci) (pm_T ci k).2.1 (pm_T ci k).2.2.1 = some x := fun x q => by rw [← g3]; exact q
  rcases hfin with hfin | ⟨hfin, hci⟩
  · rcases g4 with g4 | ⟨host, g4⟩
    · exact va_put hx hb hts f1 (pm_fty ci) f2 f3 hown hK hP pm_D hS a he g1 k g2 (hts _ g4) hsame (by rw [g5]; exact hfin) (f2 k g2) o1 o2 hl' hd kk'
    · exact va_putN hx hb hts f1 (pm_fty ci) f2 f3 hown hK hP pm_D hS a he g1 k g2 (va_Nw.use rfl (hns _ g4)) hsame (by rw [g5]; exact hfin) (f2 k g2) o1 o2 hl' hd kk'
  ·
    by_cases hq : pm_fin ci k = true
    · rcases g4 with g4 | ⟨host, g4⟩
      · exact va_putF hx hb hts f1 (pm_fty ci) f2 f3 hown hK hP pm_D hS a he g1 k g2 (hts _ g4) hsame (by rw [g5]; exact hq) (hin hfin) (by rw [g3, hci]) (f2 k g2) o1 o2 hl' hd kk'
      · exact va_putF hx hb hts f1 (pm_fty ci) f2 f3 hown hK hP pm_D hS a he g1 k g2 (hts _ (g6 hci)) hsame (by rw [g5]; exact hq) (hin hfin) (by rw [g3, hci]) (f2 k g2) o1 o2 hl' hd kk'
    · rcases g4 with g4 | ⟨host, g4⟩
      · exact va_put hx hb hts f1 (pm_fty ci) f2 f3 hown hK hP pm_D hS a he g1 k g2 (hts _ g4) hsame (by rw [g5]; simpa using hq) (f2 k g2) o1 o2 hl' hd kk'
      · exact va_putN hx hb hts f1 (pm_fty ci) f2 f3 hown hK hP pm_D hS a he g1 k g2 (va_Nw.use rfl (hns _ g4)) hsame (by rw [g5]; simpa using hq) (f2 k g2) o1 o2 hl' hd kk'
theorem pm_ix_spec {j : Int32} {n k : Nat} (h : pm_ix j n = some k) : vp_in j n ∧ j.toNatClampNeg = k ∧ k < n := by
  unfold pm_ix at h
  split at h
  · cases h
  · rename_i q
    cases h
    exact ⟨q, rfl, Nat.not_le.mp fun z => q (Or.inr z)⟩
theorem pm_o_iald {a k : Nat} {j : Int32} {ys : List Int32} (hx : p.tables.exec = Jvm.exec) (hb : c.code = cc) (hK : va_K D vwCl (pm_tys cI cR) s) (hP : va_P D vwCl (pm_emb cI cR B b h.1) H)
    (ha : h.1[a]? = some (.inl (false, ys))) (hj : pm_ix j ys.length = some k) (hd : decode cc pc = .ok (.iaload, 1))
    (kk : W p l e R s mi args below meth c H locs cells slots Q (F0 mi (pc + 1) ls (.int (ys.getD k 0) :: rest))) : W p l e R s mi args below meth c H locs cells slots Q (F0 mi pc ls (.int j :: .ref (B + a) :: rest)) := by
  obtain ⟨i1, i2, i3⟩ := pm_ix_spec hj
  exact va_iald hx hb hK hP a 0 (pm_emb_at ha) rfl i1 hd (by rw [i2]; exact kk)
theorem pm_eC_set {k : Nat} {x : Int32} {ys : List Int32} {z : Bool} (hk : k < ys.length) : pm_eC cI cR B b (.inl (z, ys.set k x)) = .inl (cI z, ys.length, .inl (upd (fun i => ys.getD i 0) k x)) := by
  have e : (fun j => (ys.set k x).getD j 0) = upd (fun i => ys.getD i 0) k x := by
    funext i
    by_cases hi : i = k
    · subst hi; simp [upd, hk]
    · simp [upd, hi, List.getElem?_set_ne (fun z => hi z.symm)]
  show Sum.inl (cI z, (ys.set k x).length, Sum.inl (fun j => (ys.set k x).getD j 0)) = _
  rw [List.length_set, e]
theorem pm_o_iast {a k : Nat} {j x : Int32} {ys : List Int32} {H0 : Heap} (hx : p.tables.exec = Jvm.exec) (hb : c.code = cc) (hK : va_K D vwCl (pm_tys cI cR) s) (hP : va_P D vwCl (pm_emb cI cR B b h.1) H) (hS : va_S (fun q => B ≤ q) H0 H locs)
    (ha : h.1[a]? = some (.inl (false, ys))) (hj : pm_ix j ys.length = some k) (hd : decode cc pc = .ok (.iastore, 1))
    (kk : ∀ (H1 : Heap) (locs1 : List Loc), va_P D vwCl (pm_emb cI cR B b (h.1.set a (.inl (false, ys.set k x)))) H1 → va_S (fun q => B ≤ q) H0 H1 locs1 → W p l e R s mi args below meth c H1 locs1 cells slots Q (F0 mi (pc + 1) ls rest)) : W p l e R s mi args below meth c H locs cells slots Q (F0 mi pc ls (.int x :: .int j :: .ref (B + a) :: rest)) := by
  obtain ⟨i1, i2, i3⟩ := pm_ix_spec hj
  refine va_iast hx hb hK hP pm_D hS a 0 (pm_emb_at ha) rfl i1 hd fun H1 locs1 q1 _ q3 => kk H1 locs1 ?_ q3
  rw [pm_emb_set, pm_eC_set i3, ← i2]
  exact q1
theorem pm_o_bald {a k : Nat} {j : Int32} {ys : List Int32} (hx : p.tables.exec = Jvm.exec) (hb : c.code = cc) (hK : va_K D vwCl (pm_tys cI cR) s) (hP : va_P D vwCl (pm_emb cI cR B b h.1) H)
    (ha : h.1[a]? = some (.inl (true, ys))) (hj : pm_ix j ys.length = some k) (hd : decode cc pc = .ok (.baload, 1))
    (kk : W p l e R s mi args below meth c H locs cells slots Q (F0 mi (pc + 1) ls (.int (ys.getD k 0) :: rest))) : W p l e R s mi args below meth c H locs cells slots Q (F0 mi pc ls (.int j :: .ref (B + a) :: rest)) := by
  obtain ⟨i1, i2, i3⟩ := pm_ix_spec hj
  exact va_zald hx hb hK hP a 1 (pm_emb_at ha) rfl i1 hd (by rw [i2]; exact kk)
theorem pm_o_bast {a k : Nat} {j x : Int32} {ys : List Int32} {H0 : Heap} (hx : p.tables.exec = Jvm.exec) (hb : c.code = cc) (hK : va_K D vwCl (pm_tys cI cR) s) (hP : va_P D vwCl (pm_emb cI cR B b h.1) H) (hS : va_S (fun q => B ≤ q) H0 H locs)
    (ha : h.1[a]? = some (.inl (true, ys))) (hj : pm_ix j ys.length = some k) (h01 : (x == 0 || x == 1) = true) (hd : decode cc pc = .ok (.bastore, 1))
    (kk : ∀ (H1 : Heap) (locs1 : List Loc), va_P D vwCl (pm_emb cI cR B b (h.1.set a (.inl (true, ys.set k x)))) H1 → va_S (fun q => B ≤ q) H0 H1 locs1 → W p l e R s mi args below meth c H1 locs1 cells slots Q (F0 mi (pc + 1) ls rest)) : W p l e R s mi args below meth c H locs cells slots Q (F0 mi pc ls (.int x :: .int j :: .ref (B + a) :: rest)) := by
  obtain ⟨i1, i2, i3⟩ := pm_ix_spec hj
  have hn : vp_nar .boolean x = x := by rcases pm_01 h01 with rfl | rfl <;> rfl
  refine va_zast hx hb hK hP pm_D hS a 1 (pm_emb_at ha) rfl i1 hd fun H1 locs1 q1 _ q3 => kk H1 locs1 ?_ q3
  rw [hn] at q1
  rw [pm_emb_set, pm_eC_set i3, ← i2]
  exact q1
end HP

section HP2
variable {p : Program} {l : Launch} {e : Env} {R : Room} {s : State} {mi : MethodId} {args : Array Value} {below : List Frame} {meth : Method} {c : Code} {H : Heap} {locs : List Loc} {cells slots : Nat} {Q : State → Prop}
variable {cc : ByteArray} {pc m : Nat} {ls : Array Slot} {B b : Nat} {D : va_G} {cI : Bool → ClassId} {cR : Nat → ClassId} {h : pm_H} {rest : List Value}
theorem pm_tys_at {t : Nat} (ht : t ∈ pm_ra) : ∃ t0 : Nat, (pm_tys cI cR)[t0]? = some (cR t, FieldType.object (pm_cn t)) := by
  obtain ⟨i, hi⟩ := List.getElem?_of_mem ht
  exact ⟨i + 2, by simp [pm_tys, List.getElem?_map, hi]⟩
theorem pm_rv_ren (r : Option Nat) : pm_ren B b (pm_rv r) = va_rf (r.map (B + ·)) := by cases r <;> rfl
theorem pm_o_aald {a k t : Nat} {j : Int32} {rs : List (Option Nat)} (hx : p.tables.exec = Jvm.exec) (hb : c.code = cc) (hK : va_K D vwCl (pm_tys cI cR) s) (hP : va_P D vwCl (pm_emb cI cR B b h.1) H)
    (ha : h.1[a]? = some (.inr (.inl (t, rs)))) (ht : t ∈ pm_ra) (hj : pm_ix j rs.length = some k) (hd : decode cc pc = .ok (.aaload, 1))
    (kk : W p l e R s mi args below meth c H locs cells slots Q (F0 mi (pc + 1) ls (pm_ren B b (pm_rv (rs.getD k none)) :: rest))) : W p l e R s mi args below meth c H locs cells slots Q (F0 mi pc ls (.int j :: .ref (B + a) :: rest)) := by
  obtain ⟨i1, i2, i3⟩ := pm_ix_spec hj
  obtain ⟨t0, ht0⟩ := pm_tys_at (cI := cI) (cR := cR) ht
  exact va_aldq hx hb hK hP a t0 (pm_emb_at ha) ht0 i1 hd (by rw [i2, ← pm_rv_ren]; exact kk)
theorem pm_up {rs : List (Option Nat)} {k : Nat} {r : Option Nat} (hk : k < rs.length) : (fun i => ((rs.set k r).getD i none).map (B + ·)) = va_up (fun i => (rs.getD i none).map (B + ·)) k (r.map (B + ·)) := by
  funext i
  by_cases hi : i = k
  · subst hi; simp [va_up, hk]
  · simp [va_up, hi, List.getElem?_set_ne (fun z => hi z.symm)]
theorem pm_o_aast {a k t v : Nat} {j : Int32} {rs : List (Option Nat)} {vs : List Value} {H0 : Heap} (hx : p.tables.exec = Jvm.exec) (hb : c.code = cc) (hK : va_K D vwCl (pm_tys cI cR) s) (hP : va_P D vwCl (pm_emb cI cR B b h.1) H) (hS : va_S (fun q => B ≤ q) H0 H locs)
    (ha : h.1[a]? = some (.inr (.inl (t, rs)))) (ht : t ∈ pm_ra) (hc : vwCl[t]? = some (pm_cn t, pm_T t, pm_N t)) (hv : h.1[v]? = some (.inr (.inr (t, vs)))) (hj : pm_ix j rs.length = some k) (hd : decode cc pc = .ok (.aastore, 1))
    (kk : ∀ (H1 : Heap) (locs1 : List Loc), va_P D vwCl (pm_emb cI cR B b (h.1.set a (.inr (.inl (t, rs.set k (some v)))))) H1 → va_S (fun q => B ≤ q) H0 H1 locs1 → W p l e R s mi args below meth c H1 locs1 cells slots Q (F0 mi (pc + 1) ls rest)) : W p l e R s mi args below meth c H locs cells slots Q (F0 mi pc ls (.ref (B + v) :: .int j :: .ref (B + a) :: rest)) := by
  obtain ⟨i1, i2, i3⟩ := pm_ix_spec hj
  obtain ⟨t0, ht0⟩ := pm_tys_at (cI := cI) (cR := cR) ht
  refine va_astq hx hb hK hP pm_D hS a t0 v t (pm_emb_at ha) ht0 (pm_emb_at hv) hc i1 hd fun H1 locs1 q1 _ q3 => kk H1 locs1 ?_ q3
  rw [pm_emb_set]
  have e : pm_eC cI cR B b (.inr (.inl (t, rs.set k (some v)))) = .inl (cR t, rs.length, .inr (.inr (.inr (.inr (va_up (fun i => (rs.getD i none).map (B + ·)) j.toNatClampNeg (some (B + v))))))) := by
    show Sum.inl (cR t, (rs.set k (some v)).length, _) = _
    rw [List.length_set, i2, pm_up i3]
    rfl
  rw [e]
  exact q1
theorem pm_o_aastN {a k t : Nat} {j : Int32} {rs : List (Option Nat)} {H0 : Heap} (hx : p.tables.exec = Jvm.exec) (hb : c.code = cc) (hK : va_K D vwCl (pm_tys cI cR) s) (hP : va_P D vwCl (pm_emb cI cR B b h.1) H) (hS : va_S (fun q => B ≤ q) H0 H locs)
    (ha : h.1[a]? = some (.inr (.inl (t, rs)))) (ht : t ∈ pm_ra) (hj : pm_ix j rs.length = some k) (hd : decode cc pc = .ok (.aastore, 1))
    (kk : ∀ (H1 : Heap) (locs1 : List Loc), va_P D vwCl (pm_emb cI cR B b (h.1.set a (.inr (.inl (t, rs.set k none))))) H1 → va_S (fun q => B ≤ q) H0 H1 locs1 → W p l e R s mi args below meth c H1 locs1 cells slots Q (F0 mi (pc + 1) ls rest)) : W p l e R s mi args below meth c H locs cells slots Q (F0 mi pc ls (.null :: .int j :: .ref (B + a) :: rest)) := by
  obtain ⟨i1, i2, i3⟩ := pm_ix_spec hj
  obtain ⟨t0, ht0⟩ := pm_tys_at (cI := cI) (cR := cR) ht
  refine va_astqN hx hb hK hP pm_D hS a t0 (pm_emb_at ha) ht0 i1 hd fun H1 locs1 q1 _ q3 => kk H1 locs1 ?_ q3
  rw [pm_emb_set]
  have e : pm_eC cI cR B b (.inr (.inl (t, rs.set k none))) = .inl (cR t, rs.length, .inr (.inr (.inr (.inr (va_up (fun i => (rs.getD i none).map (B + ·)) j.toNatClampNeg none))))) := by
    show Sum.inl (cR t, (rs.set k none).length, _) = _
    rw [List.length_set, i2, pm_up i3]
    rfl
  rw [e]
  exact q1
theorem pm_eC_zero (z : Bool) (n : Nat) : pm_eC cI cR B b (.inl (z, List.replicate n 0)) = .inl (cI z, n, .inl (fun _ => 0)) := by
  have e : (fun j => (List.replicate n (0 : Int32)).getD j 0) = fun _ => 0 := by
    funext i
    simp only [List.getD_eq_getElem?_getD, List.getElem?_replicate]
    split <;> rfl
  show Sum.inl (cI z, (List.replicate n (0 : Int32)).length, Sum.inl (fun j => (List.replicate n (0 : Int32)).getD j 0)) = _
  rw [List.length_replicate, e]
theorem pm_grow {q : Nat} {x : pm_C} {en : va_E} {H1 : Heap} {n : Nat} (hen : pm_eC cI cR B b x = en) (hz : s.heap.size + cells = B + h.1.length) (q1 : va_P D vwCl (pm_emb cI cR B b h.1 ++ [(q, en)]) H1) (q2 : va_D (fun q => B ≤ q) (pm_emb cI cR B b h.1 ++ [(q, en)])) {g : Nat → JFrame}
    (kk : va_P D vwCl (pm_emb cI cR B b (h.1 ++ [x])) H1 → W p l e R s mi args below meth c H1 locs (cells + 1) (slots + n) Q (g (B + h.1.length))) : W p l e R s mi args below meth c H1 locs (cells + 1) (slots + n) Q (g q) := by
  subst hen
  refine pm_W_size fun hz1 => ?_
  have hq := pm_fresh q1 q2 (by omega)
  subst hq
  exact kk (by rw [pm_emb_push]; exact q1)
theorem pm_plain_map {fs : List Value} (h : ∀ v ∈ fs, pk_plain v = true) : fs.map (pm_ren B b) = fs := by
  rw [List.map_congr_left (g := id) (fun v hv => ?_), List.map_id]
  have h1 := h v hv
  cases v <;> first | rfl | (simp [pk_plain] at h1; done)
theorem pm_o_new {idx ci : Nat} {fs : List Value} {H0 : Heap} (hx : p.tables.exec = Jvm.exec) (hb : c.code = cc) (hown : s.vm.findClass (pm_cn (pm_own m)) = some mi.cls) (hts : ∀ w ∈ pm_words, w.before args s = true) (hK : va_K D vwCl (pm_tys cI cR) s) (hP : va_P D vwCl (pm_emb cI cR B b h.1) H) (hS : va_S (fun q => B ≤ q) H0 H locs) (hA : B ≤ H0.size) (hz : s.heap.size + cells = B + h.1.length)
    (hf : pm_new (pm_own m) idx = some (ci, fs)) (hcells : cells + 1 ≤ R.cells) (hslots : slots + fs.length ≤ R.slots) (hd : decode cc pc = .ok (.new idx, 3))
    (kk : ∀ H1 : Heap, va_P D vwCl (pm_emb cI cR B b (h.1 ++ [.inr (.inr (ci, fs))])) H1 → va_S (fun q => B ≤ q) H0 H1 locs → W p l e R s mi args below meth c H1 locs (cells + 1) (slots + fs.length) Q (F0 mi (pc + 3) ls (.ref (B + h.1.length) :: rest))) : W p l e R s mi args below meth c H locs cells slots Q (F0 mi pc ls rest) := by
  obtain ⟨g1, g2, g3, g4, g5, g6, g7⟩ := pm_f3 hf
  obtain ⟨f1, f2, f3⟩ := pm_f2 g1
  rw [g2] at hslots kk
  exact va_new (ci := ci) (fs := fs) hx hb hts f1 (pm_fty ci) f2 hown (hts _ g5) (hts _ g6) (hts _ g7) hK hP pm_D hS (fun q z => Nat.le_trans hA z) g1 g3 hcells hslots hd fun q H1 q1 q2 q3 =>
    pm_grow (g := fun q => F0 mi (pc + 3) ls (.ref q :: rest)) (x := .inr (.inr (ci, fs))) (by show Sum.inr (ci, fs.map (pm_ren B b)) = _; rw [pm_plain_map g4]) hz q1 q2 (fun z => kk H1 z q3)
theorem pm_o_newa {n : Int32} {H0 : Heap} (hx : p.tables.exec = Jvm.exec) (hb : c.code = cc) (hts : ∀ w ∈ pm_words, w.before args s = true) (hK : va_K D vwCl (pm_tys cI cR) s) (hP : va_P D vwCl (pm_emb cI cR B b h.1) H) (hS : va_S (fun q => B ≤ q) H0 H locs) (hA : B ≤ H0.size) (hz : s.heap.size + cells = B + h.1.length)
    (hn : ¬ n < 0) (hsm : n.toNatClampNeg ≤ 65536) (hcells : cells + 1 ≤ R.cells) (hslots : slots + n.toNatClampNeg ≤ R.slots) (hd : decode cc pc = .ok (.newarray .int, 2))
    (kk : ∀ H1 : Heap, va_P D vwCl (pm_emb cI cR B b (h.1 ++ [.inl (false, List.replicate n.toNatClampNeg 0)])) H1 → va_S (fun q => B ≤ q) H0 H1 locs → W p l e R s mi args below meth c H1 locs (cells + 1) (slots + n.toNatClampNeg) Q (F0 mi (pc + 2) ls (.ref (B + h.1.length) :: rest))) : W p l e R s mi args below meth c H locs cells slots Q (F0 mi pc ls (.int n :: rest)) := by
  have hw : (Cond.arrayClass (newarray.typeOf .int)).before args s = true := hts (.arrayClass .int) pm_f7
  refine va_newa (atype := .int) (ty := .int) (a0 := (n.toNatClampNeg, .inl (fun _ => 0))) hx hb hw rfl hK hP pm_D hS (fun q z => Nat.le_trans hA z) (fun cA => rfl) hn rfl (by simp [componentBytes]; omega) hcells hslots hd fun q cA H1 k1 q1 q2 q3 => ?_
  have hcA : cA = cI false := by
    have e1 := (k1.2 (pm_tys cI cR).length (cA, .int) (by simp)).2
    have e2 := (hK.2 0 (cI false, .int) rfl).2
    exact Option.some.inj (e1.symm.trans e2)
  subst hcA
  refine pm_grow (g := fun q => F0 mi (pc + 2) ls (.ref q :: rest)) (x := .inl (false, List.replicate n.toNatClampNeg 0)) (pm_eC_zero _ _) hz q1 q2 (fun z => kk H1 z q3)
theorem pm_o_newz {n : Int32} {H0 : Heap} (hx : p.tables.exec = Jvm.exec) (hb : c.code = cc) (hts : ∀ w ∈ pm_words, w.before args s = true) (hK : va_K D vwCl (pm_tys cI cR) s) (hP : va_P D vwCl (pm_emb cI cR B b h.1) H) (hS : va_S (fun q => B ≤ q) H0 H locs) (hA : B ≤ H0.size) (hz : s.heap.size + cells = B + h.1.length)
    (hn : ¬ n < 0) (hsm : n.toNatClampNeg ≤ 65536) (hcells : cells + 1 ≤ R.cells) (hslots : slots + n.toNatClampNeg ≤ R.slots) (hd : decode cc pc = .ok (.newarray .boolean, 2))
    (kk : ∀ H1 : Heap, va_P D vwCl (pm_emb cI cR B b (h.1 ++ [.inl (true, List.replicate n.toNatClampNeg 0)])) H1 → va_S (fun q => B ≤ q) H0 H1 locs → W p l e R s mi args below meth c H1 locs (cells + 1) (slots + n.toNatClampNeg) Q (F0 mi (pc + 2) ls (.ref (B + h.1.length) :: rest))) : W p l e R s mi args below meth c H locs cells slots Q (F0 mi pc ls (.int n :: rest)) := by
  have hw : (Cond.arrayClass (newarray.typeOf .boolean)).before args s = true := hts (.arrayClass .boolean) pm_f7b
  refine va_newa (atype := .boolean) (ty := .boolean) (a0 := (n.toNatClampNeg, .inl (fun _ => 0))) hx hb hw rfl hK hP pm_D hS (fun q z => Nat.le_trans hA z) (fun cA => rfl) hn rfl (by simp [componentBytes]; omega) hcells hslots hd fun q cA H1 k1 q1 q2 q3 => ?_
  have hcA : cA = cI true := by
    have e1 := (k1.2 (pm_tys cI cR).length (cA, .boolean) (by simp)).2
    have e2 := (hK.2 1 (cI true, .boolean) rfl).2
    exact Option.some.inj (e1.symm.trans e2)
  subst hcA
  refine pm_grow (g := fun q => F0 mi (pc + 2) ls (.ref q :: rest)) (x := .inl (true, List.replicate n.toNatClampNeg 0)) (pm_eC_zero _ _) hz q1 q2 (fun z => kk H1 z q3)
end HP2

section HP3
variable {p : Program} {l : Launch} {e : Env} {R : Room} {s : State} {mi : MethodId} {args : Array Value} {below : List Frame} {meth : Method} {c : Code} {H : Heap} {locs : List Loc} {cells slots : Nat} {Q : State → Prop}
variable {cc : ByteArray} {pc m : Nat} {ls : Array Slot} {B b : Nat} {D : va_G} {cI : Bool → ClassId} {cR : Nat → ClassId} {h : pm_H} {rest : List Value}
theorem pm_o_anew {n : Int32} {idx t : Nat} {H0 : Heap} (hx : p.tables.exec = Jvm.exec) (hb : c.code = cc) (hown : s.vm.findClass (pm_cn (pm_own m)) = some mi.cls) (hts : ∀ w ∈ pm_words, w.before args s = true) (hns : ∀ w ∈ pm_nest, va_Nw w s) (hK : va_K D vwCl (pm_tys cI cR) s) (hP : va_P D vwCl (pm_emb cI cR B b h.1) H) (hS : va_S (fun q => B ≤ q) H0 H locs) (hA : B ≤ H0.size) (hz : s.heap.size + cells = B + h.1.length)
    (hf : pm_anew (pm_own m) idx = some t) (hn : ¬ n < 0) (hsm : n.toNatClampNeg ≤ 65536) (hcells : cells + 1 ≤ R.cells) (hslots : slots + n.toNatClampNeg ≤ R.slots) (hd : decode cc pc = .ok (.anewarray idx, 3))
    (kk : ∀ H1 : Heap, va_P D vwCl (pm_emb cI cR B b (h.1 ++ [.inr (.inl (t, List.replicate n.toNatClampNeg none))])) H1 → va_S (fun q => B ≤ q) H0 H1 locs → W p l e R s mi args below meth c H1 locs (cells + 1) (slots + n.toNatClampNeg) Q (F0 mi (pc + 3) ls (.ref (B + h.1.length) :: rest))) : W p l e R s mi args below meth c H locs cells slots Q (F0 mi pc ls (.int n :: rest)) := by
  obtain ⟨g1, g2, g3⟩ := pm_f4 hf
  refine va_newq (C := pm_cn t) hx hb hown (hts _ g2) (hns _ g3) hK hP pm_D hS (fun q z => Nat.le_trans hA z) hn rfl (by omega) hcells hslots hd fun q cA H1 k1 q1 q2 q3 => ?_
  have hcA : cA = cR t := by
    obtain ⟨t0, ht0⟩ := pm_tys_at (cI := cI) (cR := cR) g1
    obtain ⟨-, -, -, -, -, e1⟩ := (k1.2 (pm_tys cI cR).length (cA, FieldType.object (pm_cn t)) (by simp)).2
    obtain ⟨-, -, -, -, -, e2⟩ := (hK.2 t0 (cR t, FieldType.object (pm_cn t)) ht0).2
    exact Option.some.inj (e1.symm.trans e2)
  subst hcA
  refine pm_grow (g := fun q => F0 mi (pc + 3) ls (.ref q :: rest)) (x := .inr (.inl (t, List.replicate n.toNatClampNeg none))) ?_ hz q1 q2 (fun z => kk H1 z q3)
  have e : (fun j => ((List.replicate n.toNatClampNeg (none : Option Nat)).getD j none).map (B + ·)) = fun _ => none := by
    funext i
    simp only [List.getD_eq_getElem?_getD, List.getElem?_replicate]
    split <;> rfl
  show Sum.inl (cR t, (List.replicate n.toNatClampNeg (none : Option Nat)).length, Sum.inr (Sum.inr (Sum.inr (Sum.inr (fun j => ((List.replicate n.toNatClampNeg (none : Option Nat)).getD j none).map (B + ·)))))) = _
  rw [List.length_replicate, e]
theorem pm_o_alen {a : Nat} {ys : List Int32} (hx : p.tables.exec = Jvm.exec) (hb : c.code = cc) (hK : va_K D vwCl (pm_tys cI cR) s) (hP : va_P D vwCl (pm_emb cI cR B b h.1) H)
    (ha : h.1[a]? = some (.inl (false, ys))) (hd : decode cc pc = .ok (.arraylength, 1)) (kk : W p l e R s mi args below meth c H locs cells slots Q (F0 mi (pc + 1) ls (.int (Int32.ofNat ys.length) :: rest))) : W p l e R s mi args below meth c H locs cells slots Q (F0 mi pc ls (.ref (B + a) :: rest)) :=
  va_alen hx hb hK hP a 0 (pm_emb_at ha) (ty := .int) rfl rfl hd kk
theorem pm_o_alenR {a t : Nat} {rs : List (Option Nat)} (hx : p.tables.exec = Jvm.exec) (hb : c.code = cc) (hK : va_K D vwCl (pm_tys cI cR) s) (hP : va_P D vwCl (pm_emb cI cR B b h.1) H)
    (ha : h.1[a]? = some (.inr (.inl (t, rs)))) (ht : t ∈ pm_ra) (hd : decode cc pc = .ok (.arraylength, 1)) (kk : W p l e R s mi args below meth c H locs cells slots Q (F0 mi (pc + 1) ls (.int (Int32.ofNat rs.length) :: rest))) : W p l e R s mi args below meth c H locs cells slots Q (F0 mi pc ls (.ref (B + a) :: rest)) := by
  obtain ⟨t0, ht0⟩ := pm_tys_at (cI := cI) (cR := cR) ht
  exact va_alen hx hb hK hP a t0 (pm_emb_at ha) ht0 rfl hd kk
end HP3

section HOK
variable {m idx : Nat} {st st' : List Value} {h h1 : pm_H} {xs : List Int32}
theorem pm_hget_ok (e : pm_hget m idx st h = some (st', h1)) : ∃ (c k a : Nat) (rest fs : List Value) (v : Value), pm_fld (pm_own m) idx = some (c, k) ∧ st = .ref a :: rest ∧ h.1[a]? = some (.inr (.inr (c, fs))) ∧ fs[k]? = some v ∧ st' = v :: rest ∧ h1 = h := by
  unfold pm_hget at e
  split at e
  · cases e
  · rename_i c k hf
    split at e
    · rename_i a rest
      split at e
      · rename_i c' fs ha
        split at e
        · rename_i v hv
          split at e
          · rename_i hc
            subst hc
            cases e
            exact ⟨_, _, _, _, _, _, hf, rfl, ha, hv, rfl, rfl⟩
          · cases e
        · cases e
      · cases e
    · cases e
theorem pm_hput_ok (e : pm_hput m idx st h = some (st', h1)) : ∃ (c k a : Nat) (fs : List Value) (v : Value), pm_fld (pm_own m) idx = some (c, k) ∧ st = v :: .ref a :: st' ∧ h.1[a]? = some (.inr (.inr (c, fs))) ∧ k < fs.length ∧ pm_ok (pm_fty c k) v = true ∧ (pm_fin c k = false ∨ (pm_init m = true ∧ pm_own m = c)) ∧ h1 = (h.1.set a (.inr (.inr (c, fs.set k v))), h.2) := by
  unfold pm_hput at e
  split at e
  · cases e
  · rename_i c k hf
    split at e
    · rename_i v a rest
      split at e
      · rename_i c' fs ha
        split at e
        · rename_i hc
          obtain ⟨hc, q1, q2, q3⟩ := hc
          subst hc
          cases e
          exact ⟨_, _, _, _, _, hf, rfl, ha, q1, q2, q3, rfl⟩
        · cases e
      · cases e
    · cases e
theorem pm_hiald_ok (e : pm_hiald st h xs = some (st', h1)) : (∃ (j : Int32) (a k : Nat) (rest : List Value) (ys : List Int32), st = .int j :: .ref a :: rest ∧ h.1[a]? = some (.inl (false, ys)) ∧ pm_ix j ys.length = some k ∧ st' = .int (ys.getD k 0) :: rest ∧ h1 = h) ∨
    (∃ (j : Int32) (k : Nat) (rest : List Value), st = .int j :: .retAddr 1 :: rest ∧ pm_ix j xs.length = some k ∧ st' = .int (xs.getD k 0) :: rest ∧ h1 = h) := by
  unfold pm_hiald at e
  split at e
  · rename_i j a rest
    split at e
    · rename_i ys ha
      split at e
      · rename_i k hk
        cases e
        exact Or.inl ⟨_, _, _, _, _, rfl, ha, hk, rfl, rfl⟩
      · cases e
    · cases e
  · rename_i j rest
    split at e
    · rename_i k hk
      cases e
      exact Or.inr ⟨_, _, _, rfl, hk, rfl, rfl⟩
    · cases e
  · cases e
theorem pm_hiast_ok (e : pm_hiast st h = some (st', h1)) : ∃ (v j : Int32) (a k : Nat) (ys : List Int32), st = .int v :: .int j :: .ref a :: st' ∧ h.1[a]? = some (.inl (false, ys)) ∧ pm_ix j ys.length = some k ∧ h1 = (h.1.set a (.inl (false, ys.set k v)), h.2) := by
  unfold pm_hiast at e
  split at e
  · rename_i v j a rest
    split at e
    · rename_i ys ha
      split at e
      · rename_i k hk
        cases e
        exact ⟨_, _, _, _, _, rfl, ha, hk, rfl⟩
      · cases e
    · cases e
  · cases e
theorem pm_hbald_ok (e : pm_hbald st h = some (st', h1)) : ∃ (j : Int32) (a k : Nat) (rest : List Value) (ys : List Int32), st = .int j :: .ref a :: rest ∧ h.1[a]? = some (.inl (true, ys)) ∧ pm_ix j ys.length = some k ∧ st' = .int (ys.getD k 0) :: rest ∧ h1 = h := by
  unfold pm_hbald at e
  split at e
  · rename_i j a rest
    split at e
    · rename_i ys ha
      split at e
      · rename_i k hk
        cases e
        exact ⟨_, _, _, _, _, rfl, ha, hk, rfl, rfl⟩
      · cases e
    · cases e
  · cases e
theorem pm_hbast_ok (e : pm_hbast st h = some (st', h1)) : ∃ (v j : Int32) (a k : Nat) (ys : List Int32), st = .int v :: .int j :: .ref a :: st' ∧ h.1[a]? = some (.inl (true, ys)) ∧ pm_ix j ys.length = some k ∧ (v == 0 || v == 1) = true ∧ h1 = (h.1.set a (.inl (true, ys.set k v)), h.2) := by
  unfold pm_hbast at e
  split at e
  · rename_i v j a rest
    split at e
    · rename_i ys ha
      split at e
      · rename_i k hk
        split at e
        · rename_i hv
          cases e
          exact ⟨_, _, _, _, _, rfl, ha, hk, hv, rfl⟩
        · cases e
      · cases e
    · cases e
  · cases e
theorem pm_haald_ok (e : pm_haald st h = some (st', h1)) : ∃ (j : Int32) (a k t : Nat) (rest : List Value) (rs : List (Option Nat)), st = .int j :: .ref a :: rest ∧ h.1[a]? = some (.inr (.inl (t, rs))) ∧ pm_ix j rs.length = some k ∧ t ∈ pm_ra ∧ st' = pm_rv (rs.getD k none) :: rest ∧ h1 = h := by
  unfold pm_haald at e
  split at e
  · rename_i j a rest
    split at e
    · rename_i t rs ha
      split at e
      · rename_i k hk
        split at e
        · rename_i ht
          cases e
          exact ⟨_, _, _, _, _, _, rfl, ha, hk, ht, rfl, rfl⟩
        · cases e
      · cases e
    · cases e
  · cases e
theorem pm_haast_ok (e : pm_haast st h = some (st', h1)) : (∃ (j : Int32) (v a k t : Nat) (rs : List (Option Nat)) (vs : List Value), st = .ref v :: .int j :: .ref a :: st' ∧ h.1[a]? = some (.inr (.inl (t, rs))) ∧ h.1[v]? = some (.inr (.inr (t, vs))) ∧ pm_ix j rs.length = some k ∧ t ∈ pm_ra ∧ h1 = (h.1.set a (.inr (.inl (t, rs.set k (some v)))), h.2)) ∨
    (∃ (j : Int32) (a k t : Nat) (rs : List (Option Nat)), st = .null :: .int j :: .ref a :: st' ∧ h.1[a]? = some (.inr (.inl (t, rs))) ∧ pm_ix j rs.length = some k ∧ t ∈ pm_ra ∧ h1 = (h.1.set a (.inr (.inl (t, rs.set k none))), h.2)) := by
  unfold pm_haast at e
  split at e
  · rename_i v j a rest
    split at e
    · rename_i t rs ha
      split at e
      · rename_i c vs hv
        split at e
        · rename_i k hk
          split at e
          · rename_i ht
            obtain ⟨hc, ht⟩ := ht
            subst hc
            cases e
            exact Or.inl ⟨_, _, _, _, _, _, _, rfl, ha, hv, hk, ht, rfl⟩
          · cases e
        · cases e
      · cases e
    · cases e
  · rename_i j a rest
    split at e
    · rename_i t rs ha
      split at e
      · rename_i k hk
        split at e
        · rename_i ht
          cases e
          exact Or.inr ⟨_, _, _, _, _, rfl, ha, hk, ht, rfl⟩
        · cases e
      · cases e
    · cases e
  · cases e
theorem pm_halen_ok (e : pm_halen st h xs = some (st', h1)) : (∃ (a : Nat) (rest : List Value) (ys : List Int32), st = .ref a :: rest ∧ h.1[a]? = some (.inl (false, ys)) ∧ st' = .int (Int32.ofNat ys.length) :: rest ∧ h1 = h) ∨
    (∃ (a t : Nat) (rest : List Value) (rs : List (Option Nat)), st = .ref a :: rest ∧ h.1[a]? = some (.inr (.inl (t, rs))) ∧ t ∈ pm_ra ∧ st' = .int (Int32.ofNat rs.length) :: rest ∧ h1 = h) ∨
    (∃ rest : List Value, st = .retAddr 1 :: rest ∧ st' = .int (Int32.ofNat xs.length) :: rest ∧ h1 = h) := by
  unfold pm_halen at e
  split at e
  · rename_i a rest
    split at e
    · rename_i ys ha
      cases e
      exact Or.inl ⟨_, _, _, rfl, ha, rfl, rfl⟩
    · rename_i t rs ha
      split at e
      · rename_i ht
        cases e
        exact Or.inr (Or.inl ⟨_, _, _, _, rfl, ha, ht, rfl, rfl⟩)
      · cases e
    · cases e
  · cases e
    exact Or.inr (Or.inr ⟨_, rfl, rfl, rfl⟩)
  · cases e
theorem pm_hnew_ok (e : pm_hnew m idx st h = some (st', h1)) : ∃ (ci : Nat) (fs : List Value), pm_new (pm_own m) idx = some (ci, fs) ∧ st' = .ref h.1.length :: st ∧ h1 = (h.1 ++ [.inr (.inr (ci, fs))], h.2 + fs.length) := by
  unfold pm_hnew at e
  split at e
  · rename_i q hq
    obtain ⟨ci, fs⟩ := q
    cases e
    exact ⟨_, _, hq, rfl, rfl⟩
  · cases e
theorem pm_hnewa_ok {z : Bool} (e : pm_hnewa z st h = some (st', h1)) : ∃ (n : Int32) (rest : List Value), st = .int n :: rest ∧ ¬ n < 0 ∧ n.toNatClampNeg ≤ 65536 ∧ st' = .ref h.1.length :: rest ∧ h1 = (h.1 ++ [.inl (z, List.replicate n.toNatClampNeg 0)], h.2 + n.toNatClampNeg) := by
  unfold pm_hnewa at e
  split at e
  · rename_i n rest
    split at e
    · cases e
    · rename_i hn
      cases e
      exact ⟨_, _, rfl, fun z => hn (Or.inl z), Nat.not_lt.mp fun z => hn (Or.inr z), rfl, rfl⟩
  · cases e
theorem pm_hanew_ok (e : pm_hanew m idx st h = some (st', h1)) : ∃ (t : Nat) (n : Int32) (rest : List Value), pm_anew (pm_own m) idx = some t ∧ st = .int n :: rest ∧ ¬ n < 0 ∧ n.toNatClampNeg ≤ 65536 ∧ st' = .ref h.1.length :: rest ∧ h1 = (h.1 ++ [.inr (.inl (t, List.replicate n.toNatClampNeg none))], h.2 + n.toNatClampNeg) := by
  unfold pm_hanew at e
  split at e
  · cases e
  · rename_i t ht
    split at e
    · rename_i n rest
      split at e
      · cases e
      · rename_i hn
        cases e
        exact ⟨_, _, _, ht, rfl, fun z => hn (Or.inl z), Nat.not_lt.mp fun z => hn (Or.inr z), rfl, rfl⟩
    · cases e
theorem pm_hcon_ok {w : Option Value} (e : pm_hcon w st h = some (st', h1)) : ∃ v, w = some v ∧ st' = v :: st ∧ h1 = h := by
  unfold pm_hcon at e
  split at e
  · rename_i v
    cases e
    exact ⟨_, rfl, rfl, rfl⟩
  · cases e
theorem pm_hobj_ok (e : pm_hobj m idx st h = some (st', h1)) : ∃ a : Nat, st = .ref a :: st' ∧ pm_lib (pm_own m) idx = 1 ∧ pm_sm st' = true ∧ h1 = h := by
  unfold pm_hobj at e
  split at e
  · rename_i a rest
    split at e
    · rename_i hc
      cases e
      exact ⟨_, rfl, hc.1, hc.2, rfl⟩
    · cases e
  · cases e
theorem pm_hmax_ok (e : pm_hmax m idx st h = some (st', h1)) : ∃ (x y : Int32) (rest : List Value), st = .int y :: .int x :: rest ∧ pm_sm rest = true ∧ h1 = h ∧
    ((pm_lib (pm_own m) idx = 2 ∧ st' = .int (if x < y then y else x) :: rest) ∨ (pm_lib (pm_own m) idx = 3 ∧ st' = .int (if y < x then y else x) :: rest)) := by
  unfold pm_hmax at e
  split at e
  · rename_i y x rest
    split at e
    · rename_i hc
      cases e
      exact ⟨_, _, _, rfl, hc.2, rfl, Or.inl ⟨hc.1, rfl⟩⟩
    · split at e
      · rename_i hc
        cases e
        exact ⟨_, _, _, rfl, hc.2, rfl, Or.inr ⟨hc.1, rfl⟩⟩
      · cases e
  · cases e
theorem pm_hclone_ok (e : pm_hclone m idx st h = some (st', h1)) : ∃ (a : Nat) (rest : List Value) (ys : List Int32), st = .ref a :: rest ∧ h.1[a]? = some (.inl (false, ys)) ∧ pm_lib (pm_own m) idx = 4 ∧ pm_sm rest = true ∧ st' = .ref h.1.length :: rest ∧ h1 = (h.1 ++ [.inl (false, ys)], h.2 + ys.length) := by
  unfold pm_hclone at e
  split at e
  · rename_i a rest
    split at e
    · rename_i ys ha
      split at e
      · rename_i hc
        cases e
        exact ⟨_, _, _, rfl, ha, hc.1, hc.2, rfl, rfl⟩
      · cases e
    · cases e
  · cases e
theorem pm_hcast_ok (e : pm_hcast m idx st h = some (st', h1)) : ∃ (a : Nat) (rest : List Value) (ys : List Int32), st = .ref a :: rest ∧ h.1[a]? = some (.inl (false, ys)) ∧ pm_lib (pm_own m) idx = 5 ∧ st' = .ref a :: rest ∧ h1 = h := by
  unfold pm_hcast at e
  split at e
  · rename_i a rest
    split at e
    · rename_i ys ha
      split at e
      · rename_i hc
        cases e
        exact ⟨_, _, _, rfl, ha, hc, rfl, rfl⟩
      · cases e
    · cases e
  · cases e
def pm_gr (h h1 : pm_H) : Prop := h.1.length ≤ h1.1.length ∧ h.2 ≤ h1.2
theorem pm_gr.rf {h : pm_H} : pm_gr h h := ⟨Nat.le_refl _, Nat.le_refl _⟩
theorem pm_gr.tr {h h1 h2 : pm_H} (a : pm_gr h h1) (b : pm_gr h1 h2) : pm_gr h h2 := ⟨Nat.le_trans a.1 b.1, Nat.le_trans a.2 b.2⟩
theorem pm_gr_set {a : Nat} {x : pm_C} : pm_gr h (h.1.set a x, h.2) := ⟨by rw [List.length_set]; exact Nat.le_refl _, Nat.le_refl _⟩
theorem pm_gr_push {x : pm_C} {n : Nat} : pm_gr h (h.1 ++ [x], h.2 + n) := ⟨by rw [List.length_append]; exact Nat.le_add_right _ _, Nat.le_add_right _ _⟩
theorem pm_hp_gr {i : Instr} (e : pm_hp m i st h xs = some (st', h1)) : pm_gr h h1 := by
  unfold pm_hp at e
  split at e
  · obtain ⟨_, _, _, _, _, _, -, -, -, -, -, rfl⟩ := pm_hget_ok e; exact pm_gr.rf
  · obtain ⟨_, _, _, _, _, -, -, -, -, -, -, rfl⟩ := pm_hput_ok e; exact pm_gr_set
  · rcases pm_hiald_ok e with ⟨_, _, _, _, _, -, -, -, -, rfl⟩ | ⟨_, _, _, -, -, -, rfl⟩ <;> exact pm_gr.rf
  · obtain ⟨_, _, _, _, _, -, -, -, rfl⟩ := pm_hiast_ok e; exact pm_gr_set
  · obtain ⟨_, _, _, _, _, _, -, -, -, -, -, rfl⟩ := pm_haald_ok e; exact pm_gr.rf
  · rcases pm_haast_ok e with ⟨_, _, _, _, _, _, _, -, -, -, -, -, rfl⟩ | ⟨_, _, _, _, _, -, -, -, -, rfl⟩ <;> exact pm_gr_set
  · rcases pm_halen_ok e with ⟨_, _, _, -, -, -, rfl⟩ | ⟨_, _, _, _, -, -, -, -, rfl⟩ | ⟨_, -, -, rfl⟩ <;> exact pm_gr.rf
  · obtain ⟨_, _, -, -, rfl⟩ := pm_hnew_ok e; exact pm_gr_push
  · obtain ⟨_, _, -, -, -, -, rfl⟩ := pm_hnewa_ok e; exact pm_gr_push
  · obtain ⟨_, _, -, -, -, -, rfl⟩ := pm_hnewa_ok e; exact pm_gr_push
  · obtain ⟨_, _, _, _, _, -, -, -, -, rfl⟩ := pm_hbald_ok e; exact pm_gr.rf
  · obtain ⟨_, _, _, _, _, -, -, -, -, rfl⟩ := pm_hbast_ok e; exact pm_gr_set
  · obtain ⟨_, _, _, -, -, -, -, -, rfl⟩ := pm_hanew_ok e; exact pm_gr_push
  · obtain ⟨_, -, -, rfl⟩ := pm_hcon_ok e; exact pm_gr.rf
  · obtain ⟨_, -, -, rfl⟩ := pm_hcon_ok e; exact pm_gr.rf
  · obtain ⟨_, _, _, -, -, -, -, rfl⟩ := pm_hcast_ok e; exact pm_gr.rf
  · obtain ⟨_, -, -, -, rfl⟩ := pm_hobj_ok e; exact pm_gr.rf
  · obtain ⟨_, _, _, -, -, rfl, -⟩ := pm_hmax_ok e; exact pm_gr.rf
  · obtain ⟨_, _, _, -, -, -, -, -, rfl⟩ := pm_hclone_ok e; exact pm_gr_push
  · cases e
end HOK
theorem pm_step_gr {xs : List Int32} {m pc nx pc' : Nat} {i : Instr} {L st L' st' : List Value} {h h1 : pm_H} (e : pm_step m i pc nx L st h xs = some (pc', L', st', h1)) : pm_gr h h1 := by
  unfold pm_step at e
  split at e
  · cases e; exact pm_gr.rf
  · split at e
    · cases e; exact pm_gr.rf
    · split at e
      · rename_i hq
        cases e
        exact pm_hp_gr hq
      · split at e
        · split at e
          · cases e; exact pm_gr.rf
          · cases e
        · cases e
theorem pm_run_gr {xs : List Int32} : ∀ {n d m pc : Nat} {L st : List Value} {h h' : pm_H} {v : Option Value}, pm_run xs n d m pc L st h = some (v, h') → pm_gr h h' := by
  intro n
  induction n with
  | zero => intro d m pc L st h h' v e; simp [pm_run] at e
  | succ n ih =>
    intro d m pc L st h h' v e
    unfold pm_run at e
    split at e
    · cases e
    · split at e
      · cases e; exact pm_gr.rf
      · split at e
        · split at e
          · exact ih e
          · exact ih e
        · split at e
          · split at e
            · cases e
            · split at e
              · cases e
              · rename_i hq
                exact (ih hq).tr (ih e)
          · split at e
            · cases e
            · rename_i hq
              exact (pm_step_gr hq).tr (ih e)
