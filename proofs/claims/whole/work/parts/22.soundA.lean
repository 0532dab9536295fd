def pm_ren (B b : Nat) (v : Value) : Value := match v with
  | .ref k => .ref (B + k)
  | .retAddr 1 => .ref b
  | v => v
theorem pm_ren_cat (B b : Nat) (v : Value) : (pm_ren B b v).category = v.category := by
  cases v with
  | retAddr n =>
    by_cases h : n = 1
    · subst h; rfl
    · unfold pm_ren; split <;> first | rfl | simp_all
  | _ => rfl
def pm_eC (cI : Bool → ClassId) (cR : Nat → ClassId) (B b : Nat) (c : pm_C) : va_E := match c with
  | .inl (z, ys) => .inl (cI z, ys.length, .inl (fun j => ys.getD j 0))
  | .inr (.inl (t, rs)) => .inl (cR t, rs.length, .inr (.inr (.inr (.inr (fun j => (rs.getD j none).map (B + ·))))))
  | .inr (.inr (c, fs)) => .inr (c, fs.map (pm_ren B b))
def pm_emb (cI : Bool → ClassId) (cR : Nat → ClassId) (B b : Nat) (h : List pm_C) : va_W := h.mapIdx (fun k c => (B + k, pm_eC cI cR B b c))
theorem pm_emb_at {cI : Bool → ClassId} {cR : Nat → ClassId} {B b : Nat} {h : List pm_C} {k : Nat} {c : pm_C} (e : h[k]? = some c) : (pm_emb cI cR B b h)[k]? = some (B + k, pm_eC cI cR B b c) := by
  simp [pm_emb, List.getElem?_mapIdx, e]
theorem pm_emb_inv {cI : Bool → ClassId} {cR : Nat → ClassId} {B b : Nat} {h : List pm_C} {k : Nat} {q : Nat × va_E} (e : (pm_emb cI cR B b h)[k]? = some q) : k < h.length ∧ q.1 = B + k := by
  simp only [pm_emb, List.getElem?_mapIdx, Option.map_eq_some_iff] at e
  obtain ⟨c, e, rfl⟩ := e
  exact ⟨(List.getElem?_eq_some_iff.mp e).1, rfl⟩
theorem pm_emb_set {cI : Bool → ClassId} {cR : Nat → ClassId} {B b : Nat} {h : List pm_C} {k : Nat} {c : pm_C} : pm_emb cI cR B b (h.set k c) = (pm_emb cI cR B b h).set k (B + k, pm_eC cI cR B b c) := by
  apply List.ext_getElem?
  intro j
  simp only [pm_emb, List.getElem?_mapIdx, List.getElem?_set, List.length_mapIdx]
  by_cases hj : k = j
  · subst hj
    by_cases hl : k < h.length <;> simp [hl]
  · simp [hj]
theorem pm_emb_push {cI : Bool → ClassId} {cR : Nat → ClassId} {B b : Nat} {h : List pm_C} {c : pm_C} : pm_emb cI cR B b (h ++ [c]) = pm_emb cI cR B b h ++ [(B + h.length, pm_eC cI cR B b c)] := by
  simp [pm_emb, List.mapIdx_append]
theorem pm_D {cI : Bool → ClassId} {cR : Nat → ClassId} {B b : Nat} {h : List pm_C} : va_D (fun q => B ≤ q) (pm_emb cI cR B b h) := by
  refine ⟨fun i j p q hp hq e => ?_, fun k q hk => ?_⟩
  · have h1 := (pm_emb_inv hp).2
    have h2 := (pm_emb_inv hq).2
    omega
  · have h1 := (pm_emb_inv hk).2
    show B ≤ q.1
    omega
def pm_L (B b : Nat) (ls : Array Slot) (L : List Value) : Prop := ls.size = L.length ∧ lv_wf ls ∧ ∀ (i : Nat) (v : Value), L[i]? = some v → v ≠ pm_none → ls[i]? = some (.val (pm_ren B b v))
def pm_lv (B b : Nat) (L : List Value) : List (Nat × Value) := (L.zipIdx.filter (fun q => decide (q.1 ≠ pm_none))).map (fun q => (q.2, pm_ren B b q.1))
theorem pm_lv_mem {B b : Nat} {L : List Value} {q : Nat × Value} : q ∈ pm_lv B b L ↔ ∃ v, L[q.1]? = some v ∧ v ≠ pm_none ∧ q.2 = pm_ren B b v := by
  simp only [pm_lv, List.mem_map, List.mem_filter, decide_eq_true_eq]
  constructor
  · rintro ⟨⟨v, i⟩, ⟨h1, h2⟩, rfl⟩
    exact ⟨v, (List.mem_zipIdx_iff_getElem?.mp h1), h2, rfl⟩
  · rintro ⟨v, h1, h2, h3⟩
    exact ⟨(v, q.1), ⟨List.mem_zipIdx_iff_getElem?.mpr h1, h2⟩, by rw [← h3]⟩
theorem pm_L.has {B b : Nat} {ls : Array Slot} {L : List Value} (h : pm_L B b ls L) : lv_has ls L.length (pm_lv B b L) := by
  refine ⟨h.1, h.2.1, fun q hq => ?_⟩
  obtain ⟨v, h1, h2, h3⟩ := pm_lv_mem.mp hq
  rw [h.2.2 q.1 v h1 h2, h3]
theorem pm_L.st1 {B b i : Nat} {ls : Array Slot} {L : List Value} {v : Value} (hi : i < L.length) (hlow : pm_low L i = true)
    (h : lv_has ls L.length ((i, pm_ren B b v) :: (pm_lv B b L).filter (fun q => !(q.1 == i) && !(q.1 + 1 == i && q.2.category == 2)))) : pm_L B b ls (L.set i v) := by
  refine ⟨by rw [List.length_set]; exact h.1, h.2.1, fun j w hj hw => ?_⟩
  by_cases e : i = j
  · subst e
    rw [List.getElem?_set_self hi] at hj
    cases hj
    exact h.2.2 _ List.mem_cons_self
  · rw [List.getElem?_set_ne e] at hj
    refine h.2.2 (j, pm_ren B b w) (List.mem_cons_of_mem _ (List.mem_filter.mpr ⟨pm_lv_mem.mpr ⟨w, hj, hw, rfl⟩, ?_⟩))
    have e' : ¬ j = i := fun q => e q.symm
    simp only [beq_eq_false_iff_ne.mpr e', Bool.not_false, Bool.true_and, pm_ren_cat]
    by_cases e2 : j + 1 = i
    · subst e2
      have : w.category ≠ 2 := by
        intro hc
        simp [pm_low, hj, hc] at hlow
      simp [this]
    · simp [e2]
section SZ
variable {p : Program} {l : Launch} {e : Env} {R : Room} {s : State} {m : MethodId} {args : Array Value} {below : List Frame} {meth : Method} {c : Code} {H : Heap} {locs : List Loc} {cells slots : Nat} {Q : State → Prop} {g : JFrame}
theorem pm_W_size (k : H.size ≤ s.heap.size + cells → W p l e R s m args below meth c H locs cells slots Q g) : W p l e R s m args below meth c H locs cells slots Q g := by
  intro T hT X
  have h1 : T.heap.size ≤ s.heap.size + cells := X.same.2.2.1
  exact k (by rw [← hT]; exact h1) T hT X
end SZ
theorem pm_le {D : va_G} {cl : List vw_C} {cI : Bool → ClassId} {cR : Nat → ClassId} {B b : Nat} {h : List pm_C} {H : Heap} (hP : va_P D cl (pm_emb cI cR B b h) H) (h0 : B ≤ H.size) : B + h.length ≤ H.size := by
  cases hh : h.length with
  | zero => omega
  | succ n =>
    obtain ⟨c, hc⟩ : ∃ c, h[n]? = some c := ⟨h[n]'(by omega), List.getElem?_eq_getElem _⟩
    have h1 := (hP n _ (pm_emb_at hc)).lt
    simp only at h1
    omega
theorem pm_fresh {D : va_G} {cl : List vw_C} {cI : Bool → ClassId} {cR : Nat → ClassId} {B b q : Nat} {h : List pm_C} {e : va_E} {H : Heap} (hP : va_P D cl (pm_emb cI cR B b h ++ [(q, e)]) H) (hD : va_D (fun q => B ≤ q) (pm_emb cI cR B b h ++ [(q, e)])) (hz : H.size ≤ B + h.length + 1) : q = B + h.length := by
  have hl : (pm_emb cI cR B b h).length = h.length := by simp [pm_emb]
  have hq : (pm_emb cI cR B b h ++ [(q, e)])[h.length]? = some (q, e) := by rw [← hl]; simp
  have h1 := (hP _ _ hq).lt
  have h2 : B ≤ q := hD.2 _ _ hq
  simp only at h1
  rcases Nat.lt_or_ge (q - B) h.length with hlt | hge
  · obtain ⟨c, hc⟩ : ∃ c, h[q - B]? = some c := ⟨h[q - B]'hlt, List.getElem?_eq_getElem _⟩
    have h3 := pm_emb_at (cI := cI) (cR := cR) (B := B) (b := b) hc
    have h4 : (pm_emb cI cR B b h ++ [(q, e)])[q - B]? = some (B + (q - B), pm_eC cI cR B b c) := by rw [List.getElem?_append_left (by rw [hl]; exact hlt)]; exact h3
    have h5 := hD.1 _ _ _ _ h4 hq (by show B + (q - B) = q; omega)
    omega
  · omega

section TS
variable {p : Program} {l : Launch} {e : Env} {R : Room} {s : State} {mi : MethodId} {args : Array Value} {below : List Frame} {meth : Method} {c : Code} {H : Heap} {locs : List Loc} {cells slots : Nat} {Q : State → Prop}
variable {cc : ByteArray} {pc : Nat} {ls : Array Slot} {B b : Nat} {L st st' : List Value}
theorem pm_ldi_ok {k : Nat} (hL : pm_L B b ls L) (h : pm_ldi L k st = some st') : ∃ x, st' = .int x :: st ∧ ls[k]? = some (.val (.int x)) := by
  unfold pm_ldi at h
  split at h
  · rename_i x hx
    cases h
    exact ⟨x, rfl, hL.2.2 k _ hx (by simp)⟩
  · cases h
theorem pm_ldl_ok {k : Nat} (hL : pm_L B b ls L) (h : pm_ldl L k st = some st') : ∃ x, st' = .long x :: st ∧ ls[k]? = some (.val (.long x)) := by
  unfold pm_ldl at h
  split at h
  · rename_i x hx
    cases h
    exact ⟨x, rfl, hL.2.2 k _ hx (by simp)⟩
  · cases h
theorem pm_lda_ok {k : Nat} (hL : pm_L B b ls L) (h : pm_lda L k st = some st') : (∃ v x, st' = v :: st ∧ pm_ren B b v = .ref x ∧ ls[k]? = some (.val (.ref x))) ∨ (st' = .null :: st ∧ ls[k]? = some (.val .null)) := by
  unfold pm_lda at h
  split at h
  · rename_i x hx
    cases h
    exact Or.inl ⟨.ref x, B + x, rfl, rfl, hL.2.2 k _ hx (by simp)⟩
  · rename_i hx
    cases h
    exact Or.inr ⟨rfl, hL.2.2 k _ hx (by simp)⟩
  · rename_i hx
    cases h
    exact Or.inl ⟨.retAddr 1, b, rfl, rfl, hL.2.2 k _ hx (by simp)⟩
  · cases h
theorem pm_i2_ok {f : Int32 → Int32 → Option Value} (h : pm_i2 f st = some st') : ∃ x y v rest, st = .int y :: .int x :: rest ∧ f x y = some v ∧ st' = v :: rest := by
  unfold pm_i2 at h
  split at h
  · rename_i y x rest
    split at h
    · rename_i v hv
      cases h
      exact ⟨x, y, v, rest, rfl, hv, rfl⟩
    · cases h
  · cases h
theorem pm_l2_ok {f : Int64 → Int64 → Option Value} (h : pm_l2 f st = some st') : ∃ x y v rest, st = .long y :: .long x :: rest ∧ f x y = some v ∧ st' = v :: rest := by
  unfold pm_l2 at h
  split at h
  · rename_i y x rest
    split at h
    · rename_i v hv
      cases h
      exact ⟨x, y, v, rest, rfl, hv, rfl⟩
    · cases h
  · cases h
theorem pm_li_ok {f : Int64 → Int32 → Value} (h : pm_li f st = some st') : ∃ x y rest, st = .int y :: .long x :: rest ∧ st' = f x y :: rest := by
  unfold pm_li at h
  split at h
  · rename_i y x rest
    cases h
    exact ⟨x, y, rest, rfl, rfl⟩
  · cases h
theorem pm_i1_ok {f : Int32 → Value} (h : pm_i1 f st = some st') : ∃ x rest, st = .int x :: rest ∧ st' = f x :: rest := by
  unfold pm_i1 at h
  split at h
  · rename_i x rest
    cases h
    exact ⟨x, rest, rfl, rfl⟩
  · cases h
theorem pm_l1_ok {f : Int64 → Value} (h : pm_l1 f st = some st') : ∃ x rest, st = .long x :: rest ∧ st' = f x :: rest := by
  unfold pm_l1 at h
  split at h
  · rename_i x rest
    cases h
    exact ⟨x, rest, rfl, rfl⟩
  · cases h
set_option maxHeartbeats 4000000 in
theorem pm_ts_ok (hx : p.tables.exec = Jvm.exec) (hb : c.code = cc) {i : Instr} (hd : decode cc pc = .ok (i, pm_len pc i)) (hL : pm_L B b ls L) (h : pm_ts i L st = some st')
    (k : W p l e R s mi args below meth c H locs cells slots Q (F0 mi (pc + pm_len pc i) ls (st'.map (pm_ren B b)))) : W p l e R s mi args below meth c H locs cells slots Q (F0 mi pc ls (st.map (pm_ren B b))) := by
  cases i with
  | iconst n => cases h; exact lv_iconst hx hb hd rfl k
  | bipush n => cases h; exact lv_bipush hx hb hd rfl k
  | sipush n => cases h; exact lv_sipush hx hb hd rfl k
  | lconst n => cases h; exact lv_lconst hx hb hd rfl k
  | aconst_null => cases h; exact lv_null hx hb hd k
  | iload_n j => obtain ⟨x, rfl, hv⟩ := pm_ldi_ok hL h; exact lv_iload_n hx hb hd rfl hv k
  | iload j => obtain ⟨x, rfl, hv⟩ := pm_ldi_ok hL h; exact lv_iload hx hb hd hv k
  | lload_n j => obtain ⟨x, rfl, hv⟩ := pm_ldl_ok hL h; exact lv_lload_n hx hb hd rfl hv k
  | lload j => obtain ⟨x, rfl, hv⟩ := pm_ldl_ok hL h; exact lv_lload hx hb hd hv k
  | aload_n j =>
    rcases pm_lda_ok hL h with ⟨v, x, rfl, hr, hv⟩ | ⟨rfl, hv⟩
    · rw [List.map_cons, hr] at k; exact lv_aload_n hx hb hd rfl hv k
    · exact lv_aload_nN hx hb hd rfl hv k
  | aload j =>
    rcases pm_lda_ok hL h with ⟨v, x, rfl, hr, hv⟩ | ⟨rfl, hv⟩
    · rw [List.map_cons, hr] at k; exact lv_aload hx hb hd hv k
    · exact lv_aloadN hx hb hd hv k
  | iadd => simp only [pm_ts] at h; obtain ⟨x, y, v, rest, rfl, hv, rfl⟩ := pm_i2_ok h; cases hv; exact lv_iadd hx hb hd k
  | isub => simp only [pm_ts] at h; obtain ⟨x, y, v, rest, rfl, hv, rfl⟩ := pm_i2_ok h; cases hv; exact lv_isub hx hb hd k
  | imul => simp only [pm_ts] at h; obtain ⟨x, y, v, rest, rfl, hv, rfl⟩ := pm_i2_ok h; cases hv; exact lv_imul hx hb hd k
  | iand => simp only [pm_ts] at h; obtain ⟨x, y, v, rest, rfl, hv, rfl⟩ := pm_i2_ok h; cases hv; exact lv_iand hx hb hd k
  | ior => simp only [pm_ts] at h; obtain ⟨x, y, v, rest, rfl, hv, rfl⟩ := pm_i2_ok h; cases hv; exact lv_ior hx hb hd k
  | ixor => simp only [pm_ts] at h; obtain ⟨x, y, v, rest, rfl, hv, rfl⟩ := pm_i2_ok h; cases hv; exact lv_ixor hx hb hd k
  | idiv =>
    simp only [pm_ts] at h
    obtain ⟨x, y, v, rest, rfl, hv, rfl⟩ := pm_i2_ok h
    by_cases hy : y = 0
    · rw [if_pos hy] at hv; cases hv
    · rw [if_neg hy] at hv; cases hv; exact lv_idiv hx hb hd hy k
  | irem =>
    simp only [pm_ts] at h
    obtain ⟨x, y, v, rest, rfl, hv, rfl⟩ := pm_i2_ok h
    by_cases hy : y = 0
    · rw [if_pos hy] at hv; cases hv
    · rw [if_neg hy] at hv; cases hv; exact lv_irem hx hb hd hy k
  | ishl => simp only [pm_ts] at h; obtain ⟨x, y, v, rest, rfl, hv, rfl⟩ := pm_i2_ok h; cases hv; exact lv_ishl hx hb hd k
  | ishr => simp only [pm_ts] at h; obtain ⟨x, y, v, rest, rfl, hv, rfl⟩ := pm_i2_ok h; cases hv; exact lv_ishr hx hb hd k
  | iushr => simp only [pm_ts] at h; obtain ⟨x, y, v, rest, rfl, hv, rfl⟩ := pm_i2_ok h; cases hv; exact lv_iushr hx hb hd rfl k
  | ineg => simp only [pm_ts] at h; obtain ⟨x, rest, rfl, rfl⟩ := pm_i1_ok h; exact lv_ineg hx hb hd k
  | i2l => simp only [pm_ts] at h; obtain ⟨x, rest, rfl, rfl⟩ := pm_i1_ok h; exact lv_i2l hx hb hd rfl k
  | l2i => simp only [pm_ts] at h; obtain ⟨x, rest, rfl, rfl⟩ := pm_l1_ok h; exact lv_l2i hx hb hd rfl k
  | ladd => simp only [pm_ts] at h; obtain ⟨x, y, v, rest, rfl, hv, rfl⟩ := pm_l2_ok h; cases hv; exact lv_ladd hx hb hd k
  | lsub => simp only [pm_ts] at h; obtain ⟨x, y, v, rest, rfl, hv, rfl⟩ := pm_l2_ok h; cases hv; exact lv_lsub hx hb hd k
  | lmul => simp only [pm_ts] at h; obtain ⟨x, y, v, rest, rfl, hv, rfl⟩ := pm_l2_ok h; cases hv; exact lv_lmul hx hb hd k
  | land => simp only [pm_ts] at h; obtain ⟨x, y, v, rest, rfl, hv, rfl⟩ := pm_l2_ok h; cases hv; exact lv_land hx hb hd k
  | lor => simp only [pm_ts] at h; obtain ⟨x, y, v, rest, rfl, hv, rfl⟩ := pm_l2_ok h; cases hv; exact lv_lor hx hb hd k
  | lxor => simp only [pm_ts] at h; obtain ⟨x, y, v, rest, rfl, hv, rfl⟩ := pm_l2_ok h; cases hv; exact lv_lxor hx hb hd k
  | lcmp => simp only [pm_ts] at h; obtain ⟨x, y, v, rest, rfl, hv, rfl⟩ := pm_l2_ok h; cases hv; exact W.lcmp hx hb hd k
  | lshl => simp only [pm_ts] at h; obtain ⟨x, y, rest, rfl, rfl⟩ := pm_li_ok h; exact lv_lshl hx hb hd rfl k
  | lshr => simp only [pm_ts] at h; obtain ⟨x, y, rest, rfl, rfl⟩ := pm_li_ok h; exact lv_lshr hx hb hd rfl k
  | lushr => simp only [pm_ts] at h; obtain ⟨x, y, rest, rfl, rfl⟩ := pm_li_ok h; exact lv_lushr hx hb hd rfl k
  | dup =>
    cases st with
    | nil => cases h
    | cons v st =>
      simp only [pm_ts] at h
      split at h
      · rename_i hc; cases h; exact lv_dup hx hb hd (by rw [pm_ren_cat]; exact hc) k
      · cases h
  | pop =>
    cases st with
    | nil => cases h
    | cons v st =>
      simp only [pm_ts] at h
      split at h
      · rename_i hc; cases h; exact lv_pop hx hb hd (by rw [pm_ren_cat]; exact hc) k
      · cases h
  | dup_x1 =>
    cases st with
    | nil => cases h
    | cons v st => cases st with
      | nil => cases h
      | cons w st =>
        simp only [pm_ts] at h
        split at h
        · rename_i hc; cases h; exact lv_dup_x1 hx hb hd (by rw [pm_ren_cat]; exact hc.1) (by rw [pm_ren_cat]; exact hc.2) k
        · cases h
  | dup2 =>
    cases st with
    | nil => cases h
    | cons v st => cases st with
      | nil => cases h
      | cons w st =>
        simp only [pm_ts] at h
        split at h
        · rename_i hc; cases h; exact lv_dup2_11 hx hb hd (by rw [pm_ren_cat]; exact hc.1) (by rw [pm_ren_cat]; exact hc.2) k
        · cases h
  | _ => cases h
end TS

section TL
variable {p : Program} {l : Launch} {e : Env} {R : Room} {s : State} {mi : MethodId} {args : Array Value} {below : List Frame} {meth : Method} {c : Code} {H : Heap} {locs : List Loc} {cells slots : Nat} {Q : State → Prop}
variable {cc : ByteArray} {pc : Nat} {ls : Array Slot} {B b : Nat} {L st L' st' : List Value}
theorem pm_st1_ok {k : Nat} {v : Value} (h : pm_st1 L k v = some L') : k < L.length ∧ pm_low L k = true ∧ L' = L.set k v := by
  unfold pm_st1 at h
  split at h
  · rename_i hc; cases h; exact ⟨hc.1, hc.2, rfl⟩
  · cases h
theorem pm_st2_ok {k : Nat} {v : Value} (h : pm_st2 L k v = some L') : k + 1 < L.length ∧ pm_low L k = true ∧ L' = (L.set k v).set (k + 1) pm_none := by
  unfold pm_st2 at h
  split at h
  · rename_i hc; cases h; exact ⟨hc.1, hc.2, rfl⟩
  · cases h
theorem pm_L.st2 {i : Nat} {v : Value} (hi : i + 1 < L.length) (hlow : pm_low L i = true)
    (h : lv_has ls L.length ((i, pm_ren B b v) :: (pm_lv B b L).filter (fun q => !(q.1 == i) && (!(q.1 == i + 1) && !(q.1 + 1 == i && q.2.category == 2))))) : pm_L B b ls ((L.set i v).set (i + 1) pm_none) := by
  refine ⟨by rw [List.length_set, List.length_set]; exact h.1, h.2.1, fun j w hj hw => ?_⟩
  by_cases e1 : i + 1 = j
  · subst e1
    rw [List.getElem?_set_self (by rw [List.length_set]; exact hi)] at hj
    cases hj
    exact absurd rfl hw
  rw [List.getElem?_set_ne e1] at hj
  by_cases e : i = j
  · subst e
    rw [List.getElem?_set_self (by omega)] at hj
    cases hj
    exact h.2.2 _ List.mem_cons_self
  · rw [List.getElem?_set_ne e] at hj
    refine h.2.2 (j, pm_ren B b w) (List.mem_cons_of_mem _ (List.mem_filter.mpr ⟨pm_lv_mem.mpr ⟨w, hj, hw, rfl⟩, ?_⟩))
    have e' : ¬ j = i := fun q => e q.symm
    have e1' : ¬ j = i + 1 := fun q => e1 q.symm
    simp only [beq_eq_false_iff_ne.mpr e', beq_eq_false_iff_ne.mpr e1', Bool.not_false, Bool.true_and, pm_ren_cat]
    by_cases e2 : j + 1 = i
    · subst e2
      have : w.category ≠ 2 := by
        intro hc
        simp [pm_low, hj, hc] at hlow
      simp [this]
    · simp [e2]
theorem pm_sti_ok {k : Nat} (h : pm_sti L st k = some (L', st')) : ∃ x, st = .int x :: st' ∧ pm_st1 L k (.int x) = some L' := by
  unfold pm_sti at h
  split at h
  · rename_i x rest
    split at h
    · rename_i M h1
      cases h
      exact ⟨x, rfl, h1⟩
    · cases h
  · cases h
theorem pm_stl_ok {k : Nat} (h : pm_stl L st k = some (L', st')) : ∃ x, st = .long x :: st' ∧ pm_st2 L k (.long x) = some L' := by
  unfold pm_stl at h
  split at h
  · rename_i x rest
    split at h
    · rename_i M h1
      cases h
      exact ⟨x, rfl, h1⟩
    · cases h
  · cases h
theorem pm_sta_ok {k : Nat} (h : pm_sta L st k = some (L', st')) : ∃ v, st = v :: st' ∧ pm_st1 L k v = some L' ∧ ((∃ x, pm_ren B b v = .ref x) ∨ v = .null) := by
  unfold pm_sta at h
  split at h
  · rename_i x rest
    split at h
    · rename_i M h1
      cases h
      exact ⟨_, rfl, h1, Or.inl ⟨_, rfl⟩⟩
    · cases h
  · rename_i rest
    split at h
    · rename_i M h1
      cases h
      exact ⟨_, rfl, h1, Or.inr rfl⟩
    · cases h
  · rename_i rest
    split at h
    · rename_i M h1
      cases h
      exact ⟨_, rfl, h1, Or.inl ⟨_, rfl⟩⟩
    · cases h
  · cases h
set_option maxHeartbeats 4000000 in
theorem pm_tl_ok (hx : p.tables.exec = Jvm.exec) (hb : c.code = cc) {i : Instr} (hd : decode cc pc = .ok (i, pm_len pc i)) (hL : pm_L B b ls L) (h : pm_tl i L st = some (L', st'))
    (k : ∀ ls', pm_L B b ls' L' → W p l e R s mi args below meth c H locs cells slots Q (F0 mi (pc + pm_len pc i) ls' (st'.map (pm_ren B b)))) : W p l e R s mi args below meth c H locs cells slots Q (F0 mi pc ls (st.map (pm_ren B b))) := by
  cases i with
  | istore_n j => obtain ⟨x, rfl, h1⟩ := pm_sti_ok h; obtain ⟨a1, a2, rfl⟩ := pm_st1_ok h1; exact lv_istore_n hx hb hd rfl hL.has a1 rfl fun ls' hl => k ls' (pm_L.st1 (v := .int x) a1 a2 hl)
  | istore j => obtain ⟨x, rfl, h1⟩ := pm_sti_ok h; obtain ⟨a1, a2, rfl⟩ := pm_st1_ok h1; exact lv_istore hx hb hd hL.has a1 rfl fun ls' hl => k ls' (pm_L.st1 (v := .int x) a1 a2 hl)
  | lstore_n j => obtain ⟨x, rfl, h1⟩ := pm_stl_ok h; obtain ⟨a1, a2, rfl⟩ := pm_st2_ok h1; exact lv_lstore_n hx hb hd rfl hL.has a1 rfl fun ls' hl => k ls' (pm_L.st2 (v := .long x) a1 a2 hl)
  | lstore j => obtain ⟨x, rfl, h1⟩ := pm_stl_ok h; obtain ⟨a1, a2, rfl⟩ := pm_st2_ok h1; exact lv_lstore hx hb hd hL.has a1 rfl fun ls' hl => k ls' (pm_L.st2 (v := .long x) a1 a2 hl)
  | astore_n j =>
    obtain ⟨v, rfl, h1, hv⟩ := pm_sta_ok (B := B) (b := b) h
    obtain ⟨a1, a2, rfl⟩ := pm_st1_ok h1
    rcases hv with ⟨x, hv⟩ | rfl
    · rw [List.map_cons, hv]
      exact lv_astore_n hx hb hd rfl hL.has a1 rfl fun ls' hl => k ls' (pm_L.st1 (v := v) a1 a2 (by rw [hv]; exact hl))
    · exact lv_astore_nN hx hb hd rfl hL.has a1 rfl fun ls' hl => k ls' (pm_L.st1 (v := .null) a1 a2 hl)
  | astore j =>
    obtain ⟨v, rfl, h1, hv⟩ := pm_sta_ok (B := B) (b := b) h
    obtain ⟨a1, a2, rfl⟩ := pm_st1_ok h1
    rcases hv with ⟨x, hv⟩ | rfl
    · rw [List.map_cons, hv]
      exact lv_astore hx hb hd hL.has a1 rfl fun ls' hl => k ls' (pm_L.st1 (v := v) a1 a2 (by rw [hv]; exact hl))
    · exact lv_astoreN hx hb hd hL.has a1 rfl fun ls' hl => k ls' (pm_L.st1 (v := .null) a1 a2 hl)
  | iinc j n =>
    simp only [pm_tl] at h
    split at h
    · rename_i x hxj
      split at h
      · rename_i M h1
        cases h
        obtain ⟨a1, a2, rfl⟩ := pm_st1_ok h1
        obtain ⟨q, hq⟩ := List.getElem?_of_mem ((pm_lv_mem (B := B) (b := b) (q := (j, .int x))).mpr ⟨.int x, hxj, by simp, rfl⟩)
        exact lv_iinc hx hb hd hL.has hq rfl a1 rfl fun ls' hl => k ls' (pm_L.st1 (v := .int (x + Int32.ofInt n)) a1 a2 hl)
      · cases h
    · cases h
  | _ => cases h
end TL

section BR
variable {p : Program} {l : Launch} {e : Env} {R : Room} {s : State} {mi : MethodId} {args : Array Value} {below : List Frame} {meth : Method} {c : Code} {H : Heap} {locs : List Loc} {cells slots : Nat} {Q : State → Prop}
variable {cc : ByteArray} {pc : Nat} {ls : Array Slot} {B b : Nat} {L st L' st' : List Value}
theorem pm_to_ok {off : Int} {t : Nat} (h : pm_to pc off = some t) : (pc : Int) + off = (t : Int) := by
  unfold pm_to at h
  split at h
  · cases h; omega
  · cases h
set_option maxHeartbeats 4000000 in
theorem pm_br_ok (hx : p.tables.exec = Jvm.exec) (hb : c.code = cc) {i : Instr} (hd : decode cc pc = .ok (i, pm_len pc i)) {cb : Bool} {t : Nat} (h : pm_br i st = some (cb, st')) (ht : ∀ off, pm_off i = some off → (pc : Int) + off = (t : Int))
    (kt : cb = true → W p l e R s mi args below meth c H locs cells slots Q (F0 mi t ls (st'.map (pm_ren B b))))
    (kf : cb = false → W p l e R s mi args below meth c H locs cells slots Q (F0 mi (pc + pm_len pc i) ls (st'.map (pm_ren B b)))) : W p l e R s mi args below meth c H locs cells slots Q (F0 mi pc ls (st.map (pm_ren B b))) := by
  cases i with
  | ifCond q o =>
    simp only [pm_br] at h
    split at h
    · rename_i x rest
      cases h
      cases q
      · exact lv_if_eq hx hb hd (ht _ rfl) (fun z => kt (decide_eq_true z)) (fun z => kf (decide_eq_false z))
      · exact lv_if_ne hx hb hd (ht _ rfl) (fun z => kt (decide_eq_true z)) (fun z => kf (decide_eq_false (fun y => y z)))
      · exact lv_if_lt hx hb hd (ht _ rfl) (fun z => kt (decide_eq_true z)) (fun z => kf (decide_eq_false z))
      · exact lv_if_ge hx hb hd (ht _ rfl) (fun z => kt (decide_eq_true z)) (fun z => kf (decide_eq_false z))
      · exact lv_if_gt hx hb hd (ht _ rfl) (fun z => kt (decide_eq_true z)) (fun z => kf (decide_eq_false z))
      · exact lv_if_le hx hb hd (ht _ rfl) (fun z => kt (decide_eq_true z)) (fun z => kf (decide_eq_false z))
    · cases h
  | if_icmp q o =>
    simp only [pm_br] at h
    split at h
    · rename_i y x rest
      cases h
      cases q
      · exact lv_icmp_eq hx hb hd (ht _ rfl) (fun z => kt (decide_eq_true z)) (fun z => kf (decide_eq_false z))
      · exact lv_icmp_ne hx hb hd (ht _ rfl) (fun z => kt (decide_eq_true z)) (fun z => kf (decide_eq_false (fun y => y z)))
      · exact lv_icmp_lt hx hb hd (ht _ rfl) (fun z => kt (decide_eq_true z)) (fun z => kf (decide_eq_false z))
      · exact lv_icmp_ge hx hb hd (ht _ rfl) (fun z => kt (decide_eq_true z)) (fun z => kf (decide_eq_false z))
      · exact lv_icmp_gt hx hb hd (ht _ rfl) (fun z => kt (decide_eq_true z)) (fun z => kf (decide_eq_false z))
      · exact lv_icmp_le hx hb hd (ht _ rfl) (fun z => kt (decide_eq_true z)) (fun z => kf (decide_eq_false z))
    · cases h
  | ifnull o =>
    simp only [pm_br] at h
    split at h
    · cases h; exact lv_ifnullN hx hb hd (ht _ rfl) (kt rfl)
    · cases h; exact lv_ifnull hx hb hd (kf rfl)
    · cases h
  | ifnonnull o =>
    simp only [pm_br] at h
    split at h
    · cases h; exact lv_ifnonnullN hx hb hd (kf rfl)
    · cases h; exact lv_ifnonnull hx hb hd (ht _ rfl) (kt rfl)
    · cases h
  | goto o => cases h; exact lv_goto hx hb hd (ht _ rfl) (kt rfl)
  | _ => cases h
theorem pm_sw_ok (hx : p.tables.exec = Jvm.exec) (hb : c.code = cc) {i : Instr} (hd : decode cc pc = .ok (i, pm_len pc i)) {off : Int} {t : Nat} (h : pm_sw i st = some (off, st')) (ht : pm_to pc off = some t)
    (k : W p l e R s mi args below meth c H locs cells slots Q (F0 mi t ls (st'.map (pm_ren B b)))) : W p l e R s mi args below meth c H locs cells slots Q (F0 mi pc ls (st.map (pm_ren B b))) := by
  have ht := pm_to_ok ht
  cases i with
  | tableswitch d lo hi offs =>
    simp only [pm_sw] at h
    split at h
    · rename_i x rest
      split at h
      · rename_i hc; cases h; exact lv_tableOut hx hb hd hc ht k
      · rename_i hc
        split at h
        · rename_i o h1
          cases h
          exact lv_tableIn hx hb hd (fun z => hc (Or.inl z)) (fun z => hc (Or.inr z)) h1 ht k
        · cases h
    · cases h
  | lookupswitch d ps =>
    simp only [pm_sw] at h
    split at h
    · rename_i x rest
      split at h
      · rename_i hc; cases h; exact lv_lookup hx hb hd hc rfl ht k
      · cases h
    · cases h
  | _ => cases h
end BR

