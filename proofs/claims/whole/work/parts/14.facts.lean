def pm_own (m : Nat) : Nat := match pm_M[m]? with
  | some r => r.1
  | none => 99
def pm_maxL (m : Nat) : Nat := match pm_M[m]? with
  | some r => r.2.1
  | none => 0
def pm_init (m : Nat) : Bool := match pm_M[m]? with
  | some r => r.2.2.1
  | none => false
def pm_rt (m : Nat) : Option FieldType := match pm_M[m]? with
  | some r => r.2.2.2.1
  | none => none
def pm_y (m : Nat) : MethodName := match pm_M[m]? with
  | some r => r.2.2.2.2.1
  | none => ⟨"", "", ""⟩
def pm_code (m : Nat) : ByteArray := match pm_M[m]? with
  | some r => r.2.2.2.2.2.1
  | none => ByteArray.empty
def pm_il (m : Nat) : List pm_E := match pm_M[m]? with
  | some r => r.2.2.2.2.2.2
  | none => []
def pm_ins (m pc : Nat) : Option (Instr × Nat × Nat) := pm_look (pm_il m) pc
theorem pm_t1 {m pc nx tg : Nat} {i : Instr} (h : pm_ins m pc = some (i, nx, tg)) : nx = pc + pm_len pc i ∧ decode (pm_code m) pc = .ok (i, pm_len pc i) ∧ ∀ off, pm_off i = some off → (pc : Int) + off = (tg : Int) := by
  unfold pm_ins pm_il at h
  unfold pm_code
  cases hm : pm_M[m]? with
  | none => rw [hm] at h; cases h
  | some r =>
    rw [hm] at h
    have h1 := pm_look_mem h
    have h2 := pt_kall r (List.mem_of_getElem? hm)
    have h3 := List.all_eq_true.mp h2 _ h1
    simp only [pm_ck1, Bool.and_eq_true, decide_eq_true_eq] at h3
    obtain ⟨g1, g2, g3⟩ := h3
    refine ⟨Nat.eq_of_beq_eq_true g2, g1, fun off ho => ?_⟩
    rw [ho] at g3
    exact of_decide_eq_true g3
def pm_lk {α : Type} : List (Nat × α) → Nat → Option α
  | [], _ => none
  | e :: l, i => match Nat.beq e.1 i with
    | true => some e.2
    | false => pm_lk l i
theorem pm_lk_mem {α : Type} {l : List (Nat × α)} {i : Nat} {a : α} (h : pm_lk l i = some a) : (i, a) ∈ l := by
  induction l with
  | nil => cases h
  | cons e l ih =>
    obtain ⟨b, c⟩ := e
    unfold pm_lk at h
    split at h
    · rename_i hb
      have hb : b = i := Nat.eq_of_beq_eq_true hb
      cases h
      subst hb
      exact List.mem_cons_self
    · exact List.mem_cons_of_mem _ (ih h)
def pm_fld (o idx : Nat) : Option (Nat × Nat) := match pm_lk (pt_fld o) idx with
  | some (c, k, _, _) => some (c, k)
  | none => none
def pm_new (o idx : Nat) : Option (Nat × List Value) := match pm_lk (pt_new o) idx with
  | some (c, _, _, _) => some (c, pm_dfl c)
  | none => none
def pm_anew (o idx : Nat) : Option Nat := match pm_lk (pt_anew o) idx with
  | some (c, _, _) => some c
  | none => none
def pm_con (o idx : Nat) : Option Value := match pm_lk (pt_con o) idx with
  | some (x, _) => some (.int x)
  | none => none
def pm_con2 (o idx : Nat) : Option Value := match pm_lk (pt_con2 o) idx with
  | some (x, _) => some (.long x)
  | none => none
def pm_inv (o idx : Nat) : Option (Nat × Nat × Nat) := match pm_lk (pt_inv o) idx with
  | some (m, n, k, _, _, _, _) => some (m, n, k)
  | none => none
def pm_lib (o idx : Nat) : Nat := match pm_lk (pt_lib o) idx with
  | some (k, _) => k
  | none => 0
def pm_isN : Cond → Bool
  | .fieldLinkNest .. => true
  | .methodLinkNest .. => true
  | .castable .. => true
  | .arrayOver (.object _) => true
  | _ => false
def pm_words : List Cond := lw_tbl.filter goodWord
def pm_nest : List Cond := lw_tbl.filter pm_isN
theorem pm_good {w : Cond} (h : w ∈ pm_words) : goodWord w = true := (List.mem_filter.mp h).2
theorem pm_f8 (w : Cond) (h : w ∈ pm_nest) : pm_isN w = true := (List.mem_filter.mp h).2
def pk_at (i : Nat) (w : Cond) : Bool := decide (lw_tbl[i]? = some w) && goodWord w
def pk_an (i : Nat) (w : Cond) : Bool := decide (lw_tbl[i]? = some w) && pm_isN w
theorem pk_at_mem {i : Nat} {w : Cond} (h : pk_at i w = true) : w ∈ pm_words := by
  simp only [pk_at, Bool.and_eq_true, decide_eq_true_eq] at h
  exact List.mem_filter.mpr ⟨List.mem_of_getElem? h.1, h.2⟩
theorem pk_an_mem {i : Nat} {w : Cond} (h : pk_an i w = true) : w ∈ pm_nest := by
  simp only [pk_an, Bool.and_eq_true, decide_eq_true_eq] at h
  exact List.mem_filter.mpr ⟨List.mem_of_getElem? h.1, h.2⟩
theorem pm_cl {c : Nat} (h : c < 9) : vwCl[c]? = some (pm_cn c, pm_T c, pm_N c) := by
  match c, h with
  | 0, _ => rfl
  | 1, _ => rfl
  | 2, _ => rfl
  | 3, _ => rfl
  | 4, _ => rfl
  | 5, _ => rfl
  | 6, _ => rfl
  | 7, _ => rfl
  | 8, _ => rfl
  | n + 9, h => omega
def pk_fl (o idx c k p : Nat) (nest : Bool) : Bool := match nest with
  | true => !(Nat.beq o c) && pk_an p (.fieldLinkNest (pm_cn o) idx (pm_cn c) (pm_T c k).2.1 (pm_T c k).2.2.1 "SliceDepot")
  | false => pk_at p (.fieldLink (pm_cn o) idx (pm_cn c) (pm_T c k).2.1 (pm_T c k).2.2.1)
def pk_fld (o : Nat) (e : Nat × Nat × Nat × Nat × Bool) : Bool := decide (e.2.1 < 9) && (decide (e.2.2.1 < pm_N e.2.1) && (decide ((pm_T e.2.1 e.2.2.1).1 = pm_cn e.2.1) && pk_fl o e.1 e.2.1 e.2.2.1 e.2.2.2.1 e.2.2.2.2))
theorem pk_fld0 : ∀ o, o < 5 → (pt_fld o).all (pk_fld o) = true := by decide +kernel
theorem pk_fld5 : ∀ o, o < 5 → (pt_fld (o + 5)).all (pk_fld (o + 5)) = true := by decide +kernel
theorem pk_fld_all (o : Nat) : (pt_fld o).all (pk_fld o) = true := by
  by_cases h : o < 5
  · exact pk_fld0 o h
  · by_cases h2 : o < 10
    · obtain ⟨n, rfl⟩ : ∃ n, o = n + 5 := ⟨o - 5, by omega⟩
      exact pk_fld5 n (by omega)
    · obtain ⟨n, rfl⟩ : ∃ n, o = n + 10 := ⟨o - 10, by omega⟩
      rfl
theorem pm_f1 {o idx c k : Nat} (h : pm_fld o idx = some (c, k)) : vwCl[c]? = some (pm_cn c, pm_T c, pm_N c) ∧ k < pm_N c ∧ (pm_T c k).1 = pm_cn c ∧ (pm_T c k).2.2.2 = pm_fin c k ∧
    (Cond.fieldLink (pm_cn o) idx (pm_cn c) (pm_T c k).2.1 (pm_T c k).2.2.1 ∈ pm_words ∨ ∃ host, Cond.fieldLinkNest (pm_cn o) idx (pm_cn c) (pm_T c k).2.1 (pm_T c k).2.2.1 host ∈ pm_nest) ∧
    (o = c → Cond.fieldLink (pm_cn o) idx (pm_cn c) (pm_T c k).2.1 (pm_T c k).2.2.1 ∈ pm_words) := by
  unfold pm_fld at h
  split at h
  · rename_i c' k' p nest hq
    cases h
    have h1 := List.all_eq_true.mp (pk_fld_all o) _ (pm_lk_mem hq)
    simp only [pk_fld, Bool.and_eq_true, decide_eq_true_eq] at h1
    obtain ⟨g1, g2, g3, g4⟩ := h1
    refine ⟨pm_cl g1, g2, g3, rfl, ?_⟩
    cases nest with
    | true =>
      simp only [pk_fl, Bool.and_eq_true] at g4
      obtain ⟨g4, g5⟩ := g4
      refine ⟨Or.inr ⟨_, pk_an_mem g5⟩, fun z => ?_⟩
      subst z
      simp at g4
    | false =>
      have g5 := pk_at_mem g4
      exact ⟨Or.inl g5, fun _ => g5⟩
  · cases h
def pk_cls (c : Nat) : Bool := (List.range (pm_N c)).all (fun k => pk_at ((pt_lay c).getD k 99999) (u_lay (pm_cn c) (pm_T c) k)) && ((List.range (pm_N c)).all (fun k => decide (parseFieldDescriptor (pm_T c k).2.2.1 = some (pm_fty c k))) &&
  (List.range (pm_N c)).all (fun a => (List.range (pm_N c)).all (fun b => Nat.beq a b || decide ((pm_T c a).2.1 ≠ (pm_T c b).2.1))))
theorem pk_cls_ok : ∀ c, c < 9 → pk_cls c = true := by decide +kernel
theorem pm_f2 {c : Nat} (h : vwCl[c]? = some (pm_cn c, pm_T c, pm_N c)) : (∀ w ∈ u_ws (pm_cn c) (pm_T c) (pm_N c), w ∈ pm_words) ∧ (∀ k, k < pm_N c → parseFieldDescriptor (pm_T c k).2.2.1 = some (pm_fty c k)) ∧
    (∀ a, a < pm_N c → ∀ b, b < pm_N c → a ≠ b → (pm_T c a).2.1 ≠ (pm_T c b).2.1) := by
  have hc : c < 9 := (List.getElem?_eq_some_iff.mp h).1
  have h1 := pk_cls_ok c hc
  simp only [pk_cls, Bool.and_eq_true, List.all_eq_true, List.mem_range, decide_eq_true_eq, Bool.or_eq_true] at h1
  obtain ⟨g1, g2, g3⟩ := h1
  refine ⟨fun w hw => ?_, g2, fun a ha b hb hab => ?_⟩
  · obtain ⟨k, hk, rfl⟩ := List.mem_map.mp hw
    exact pk_at_mem (g1 k (List.mem_range.mp hk))
  · rcases g3 a ha b hb with z | z
    · exact absurd (Nat.eq_of_beq_eq_true z) hab
    · exact z
def pk_plain (v : Value) : Bool := match v with
  | .null => true
  | .int _ => true
  | .long _ => true
  | _ => false
def pk_new (o : Nat) (e : Nat × Nat × Nat × Nat × Nat) : Bool := decide (e.2.1 < 9) && (decide ((pm_dfl e.2.1).length = pm_N e.2.1) && ((List.range (pm_N e.2.1)).all (fun j => decide (defaultValue (pm_fty e.2.1 j) = vp_V (pm_dfl e.2.1) j)) && ((pm_dfl e.2.1).all pk_plain &&
  (pk_at e.2.2.1 (.classLink (pm_cn o) e.1 (pm_cn e.2.1)) && (pk_at e.2.2.2.1 (.instantiable (pm_cn e.2.1) (pm_N e.2.1)) && pk_at e.2.2.2.2 (.initialized (pm_cn e.2.1)))))))
theorem pk_new0 : ∀ o, o < 10 → (pt_new o).all (pk_new o) = true := by decide +kernel
theorem pk_new_all (o : Nat) : (pt_new o).all (pk_new o) = true := by
  by_cases h : o < 10
  · exact pk_new0 o h
  · obtain ⟨n, rfl⟩ : ∃ n, o = n + 10 := ⟨o - 10, by omega⟩
    rfl
theorem pm_f3 {o idx c : Nat} {fs : List Value} (h : pm_new o idx = some (c, fs)) : vwCl[c]? = some (pm_cn c, pm_T c, pm_N c) ∧ fs.length = pm_N c ∧ (∀ j, j < pm_N c → defaultValue (pm_fty c j) = vp_V fs j) ∧ (∀ v ∈ fs, pk_plain v = true) ∧
    Cond.classLink (pm_cn o) idx (pm_cn c) ∈ pm_words ∧ Cond.instantiable (pm_cn c) (pm_N c) ∈ pm_words ∧ Cond.initialized (pm_cn c) ∈ pm_words := by
  unfold pm_new at h
  split at h
  · rename_i c' p1 p2 p3 hq
    cases h
    have h1 := List.all_eq_true.mp (pk_new_all o) _ (pm_lk_mem hq)
    simp only [pk_new, Bool.and_eq_true, decide_eq_true_eq] at h1
    obtain ⟨g1, g2, g3, g4, g5, g6, g7⟩ := h1
    refine ⟨pm_cl g1, g2, fun j hj => ?_, fun v hv => List.all_eq_true.mp g4 v hv, pk_at_mem g5, pk_at_mem g6, pk_at_mem g7⟩
    exact of_decide_eq_true (List.all_eq_true.mp g3 j (List.mem_range.mpr hj))
  · cases h
theorem pm_ra9 : ∀ t ∈ pm_ra, t < 9 := by decide +kernel
theorem pm_f14 {t : Nat} (h : t ∈ pm_ra) : vwCl[t]? = some (pm_cn t, pm_T t, pm_N t) := pm_cl (pm_ra9 t h)
def pk_anew (o : Nat) (e : Nat × Nat × Nat × Nat) : Bool := decide (e.2.1 ∈ pm_ra) && (pk_at e.2.2.1 (.classLink (pm_cn o) e.1 (pm_cn e.2.1)) && pk_an e.2.2.2 (.arrayOver (.object (pm_cn e.2.1))))
theorem pk_anew0 : ∀ o, o < 10 → (pt_anew o).all (pk_anew o) = true := by decide +kernel
theorem pk_anew_all (o : Nat) : (pt_anew o).all (pk_anew o) = true := by
  by_cases h : o < 10
  · exact pk_anew0 o h
  · obtain ⟨n, rfl⟩ : ∃ n, o = n + 10 := ⟨o - 10, by omega⟩
    rfl
theorem pm_f4 {o idx t : Nat} (h : pm_anew o idx = some t) : t ∈ pm_ra ∧ Cond.classLink (pm_cn o) idx (pm_cn t) ∈ pm_words ∧ Cond.arrayOver (.object (pm_cn t)) ∈ pm_nest := by
  unfold pm_anew at h
  split at h
  · rename_i c' p1 p2 hq
    cases h
    have h1 := List.all_eq_true.mp (pk_anew_all o) _ (pm_lk_mem hq)
    simp only [pk_anew, Bool.and_eq_true, decide_eq_true_eq] at h1
    obtain ⟨g1, g2, g3⟩ := h1
    exact ⟨g1, pk_at_mem g2, pk_an_mem g3⟩
  · cases h
theorem pk_con0 : ∀ o, o < 10 → (pt_con o).all (fun e => pk_at e.2.2 (.constant (pm_cn o) e.1 e.2.1)) = true := by decide +kernel
theorem pk_con20 : ∀ o, o < 10 → (pt_con2 o).all (fun e => pk_at e.2.2 (.constantLong (pm_cn o) e.1 e.2.1)) = true := by decide +kernel
theorem pm_f5 {o idx : Nat} {v : Value} (h : pm_con o idx = some v) : ∃ x, v = .int x ∧ Cond.constant (pm_cn o) idx x ∈ pm_words := by
  unfold pm_con at h
  split at h
  · rename_i x p hq
    cases h
    refine ⟨x, rfl, ?_⟩
    by_cases ho : o < 10
    · exact pk_at_mem (List.all_eq_true.mp (pk_con0 o ho) _ (pm_lk_mem hq))
    · obtain ⟨n, rfl⟩ : ∃ n, o = n + 10 := ⟨o - 10, by omega⟩
      cases hq
  · cases h
theorem pm_f5b {o idx : Nat} {v : Value} (h : pm_con2 o idx = some v) : ∃ x, v = .long x ∧ Cond.constantLong (pm_cn o) idx x ∈ pm_words := by
  unfold pm_con2 at h
  split at h
  · rename_i x p hq
    cases h
    refine ⟨x, rfl, ?_⟩
    by_cases ho : o < 10
    · exact pk_at_mem (List.all_eq_true.mp (pk_con20 o ho) _ (pm_lk_mem hq))
    · obtain ⟨n, rfl⟩ : ∃ n, o = n + 10 := ⟨o - 10, by omega⟩
      cases hq
  · cases h
def pk_ml (o idx p : Nat) (y : MethodName) (nest : Bool) : Bool := match nest with
  | true => pk_an p (.methodLinkNest (pm_cn o) idx y "SliceDepot")
  | false => pk_at p (.methodLink (pm_cn o) idx y)
def pk_kind (kind p2 p3 : Nat) (r : pm_MT) : Bool := match kind with
  | 0 => pk_at p2 (.static r.2.2.2.2.1)
  | 1 => pk_at p2 (.instanceMethod r.2.2.2.2.1) && (pk_at p3 (.selects r.2.2.2.2.1.cls r.2.2.2.2.1 r.2.2.2.2.1) && decide (r.1 < 9))
  | _ => decide (r.2.2.2.2.1.name = "<init>") && (decide (r.2.2.2.1 = none) && pk_at p2 (.instanceMethod r.2.2.2.2.1))
def pk_inv (o : Nat) (e : Nat × Nat × Nat × Nat × Nat × Bool × Nat × Nat) : Bool := match pm_M[e.2.1]? with
  | none => false
  | some r => decide (e.2.1 < pt_law) && (pk_at (pt_ini r.1) (.initialized r.2.2.2.2.1.cls) && (decide (r.2.2.2.2.1.cls = pm_cn r.1) && ((decide (r.2.2.2.2.1.cls ≠ "java/lang/invoke/MethodHandle") && (decide (r.2.2.2.2.1.cls ≠ "java/lang/invoke/VarHandle") && decide ((parseMethodDescriptor r.2.2.2.2.1.desc).map (fun d => d.parameters.length) = some e.2.2.1))) &&
    (pk_ml o e.1 e.2.2.2.2.1 r.2.2.2.2.1 e.2.2.2.2.2.1 && (decide (r.2.1 ≤ 17) && (plainName r.2.2.2.2.1.cls && (pk_kind e.2.2.2.1 e.2.2.2.2.2.2.1 e.2.2.2.2.2.2.2 r && (!r.2.2.1 || decide (r.2.2.2.2.1.name = "<init>")))))))))
theorem pk_inv0 : ∀ o, o < 1 → (pt_inv o).all (pk_inv o) = true := by decide +kernel
theorem pk_inv1 : ∀ o, o < 7 → (pt_inv (o + 1)).all (pk_inv (o + 1)) = true := by decide +kernel
theorem pk_inv8 : ∀ o, o < 2 → (pt_inv (o + 8)).all (pk_inv (o + 8)) = true := by decide +kernel
theorem pk_inv_all (o : Nat) : (pt_inv o).all (pk_inv o) = true := by
  by_cases h : o < 1
  · exact pk_inv0 o h
  · by_cases h2 : o < 8
    · obtain ⟨n, rfl⟩ : ∃ n, o = n + 1 := ⟨o - 1, by omega⟩
      exact pk_inv1 n (by omega)
    · by_cases h3 : o < 10
      · obtain ⟨n, rfl⟩ : ∃ n, o = n + 8 := ⟨o - 8, by omega⟩
        exact pk_inv8 n (by omega)
      · obtain ⟨n, rfl⟩ : ∃ n, o = n + 10 := ⟨o - 10, by omega⟩
        rfl
theorem pm_cwm {m : Nat} {r : pm_MT} (h : pm_M[m]? = some r) (hl : m < pt_law) : Cond.code r.2.2.2.2.1 r.2.2.2.2.2.1 r.2.1 r.2.2.2.1 ∈ pm_words := by
  have h1 : pm_M = pm_Mo ++ [pt_mlaw] := rfl
  rw [h1, List.getElem?_append_left (by exact hl)] at h
  exact List.mem_filter.mpr ⟨pt_wall r (List.mem_of_getElem? h), by first | rfl | simp [goodWord, Cond.onTables, Cond.keeps, Cond.steady]⟩
theorem pm_f6 {o idx m' n kind : Nat} (h : pm_inv o idx = some (m', n, kind)) :
    Cond.code (pm_y m') (pm_code m') (pm_maxL m') (pm_rt m') ∈ pm_words ∧ Cond.initialized (pm_y m').cls ∈ pm_words ∧ (pm_y m').cls = pm_cn (pm_own m') ∧
    ((pm_y m').cls ≠ "java/lang/invoke/MethodHandle" ∧ (pm_y m').cls ≠ "java/lang/invoke/VarHandle" ∧ (parseMethodDescriptor (pm_y m').desc).map (fun d => d.parameters.length) = some n) ∧
    (Cond.methodLink (pm_cn o) idx (pm_y m') ∈ pm_words ∨ ∃ host, Cond.methodLinkNest (pm_cn o) idx (pm_y m') host ∈ pm_nest) ∧ pm_maxL m' ≤ 17 ∧ plainName (pm_y m').cls = true ∧
    (kind = 0 → Cond.static (pm_y m') ∈ pm_words) ∧
    (kind = 1 → Cond.instanceMethod (pm_y m') ∈ pm_words ∧ Cond.selects (pm_y m').cls (pm_y m') (pm_y m') ∈ pm_words ∧ ∃ q : vw_C, vwCl[pm_own m']? = some q ∧ q.1 = pm_cn (pm_own m')) ∧
    (kind = 2 → (pm_y m').name = "<init>" ∧ pm_rt m' = none ∧ Cond.instanceMethod (pm_y m') ∈ pm_words) ∧
    (pm_init m' = true → (pm_y m').name = "<init>") := by
  unfold pm_inv at h
  split at h
  · rename_i m1 n1 kd p nest p2 p3 hq
    cases h
    have h1 := List.all_eq_true.mp (pk_inv_all o) _ (pm_lk_mem hq)
    unfold pk_inv at h1
    split at h1
    · cases h1
    · rename_i r hr
      simp only [Bool.and_eq_true, decide_eq_true_eq] at h1
      obtain ⟨g0, g1, g2, ⟨g3, g4, g5⟩, g6, g7, g8, g9, g10⟩ := h1
      have hr : pm_M[m']? = some r := hr
      have e1 : pm_y m' = r.2.2.2.2.1 := by unfold pm_y; rw [hr]
      have e2 : pm_code m' = r.2.2.2.2.2.1 := by unfold pm_code; rw [hr]
      have e3 : pm_maxL m' = r.2.1 := by unfold pm_maxL; rw [hr]
      have e4 : pm_rt m' = r.2.2.2.1 := by unfold pm_rt; rw [hr]
      have e5 : pm_own m' = r.1 := by unfold pm_own; rw [hr]
      have e6 : pm_init m' = r.2.2.1 := by unfold pm_init; rw [hr]
      rw [e1, e2, e3, e4, e5, e6]
      refine ⟨pm_cwm hr g0, pk_at_mem g1, g2, ⟨g3, g4, g5⟩, ?_, g7, g8, fun z => ?_, fun z => ?_, fun z => ?_, fun z => ?_⟩
      · cases nest with
        | true => exact Or.inr ⟨_, pk_an_mem g6⟩
        | false => exact Or.inl (pk_at_mem g6)
      · subst z
        exact pk_at_mem g9
      · subst z
        simp only [pk_kind, Bool.and_eq_true, decide_eq_true_eq] at g9
        exact ⟨pk_at_mem g9.1, pk_at_mem g9.2.1, _, pm_cl g9.2.2, rfl⟩
      · subst z
        simp only [pk_kind, Bool.and_eq_true, decide_eq_true_eq] at g9
        exact ⟨g9.1, g9.2.1, pk_at_mem g9.2.2⟩
      · rw [z] at g10
        simpa using g10
  · cases h
theorem pm_f7 : Cond.arrayClass .int ∈ pm_words := pk_at_mem (i := pt_ai) (by decide +kernel)
theorem pm_f7b : Cond.arrayClass .boolean ∈ pm_words := pk_at_mem (i := pt_az) (by decide +kernel)
def pk_lib (o : Nat) (e : Nat × Nat × Nat) : Bool := match e.2.1 with
  | 1 => pk_at e.2.2 (.methodLink (pm_cn o) e.1 Lib.objectInit)
  | 2 => pk_at e.2.2 (.methodLink (pm_cn o) e.1 Lib.Math.max.name)
  | 3 => pk_at e.2.2 (.methodLink (pm_cn o) e.1 Lib.Math.min.name)
  | 4 => pk_at e.2.2 (.methodLink (pm_cn o) e.1 ⟨"[I", "clone", "()Ljava/lang/Object;"⟩)
  | 5 => pk_at e.2.2 (.classLink (pm_cn o) e.1 "[I")
  | _ => false
theorem pk_lib0 : ∀ o, o < 10 → (pt_lib o).all (pk_lib o) = true := by decide +kernel
theorem pm_lib_ok {o idx k : Nat} (h : pm_lib o idx = k) (hk : k ≠ 0) : ∃ p, pk_lib o (idx, k, p) = true := by
  unfold pm_lib at h
  split at h
  · rename_i c p hq
    subst h
    refine ⟨p, ?_⟩
    by_cases ho : o < 10
    · exact List.all_eq_true.mp (pk_lib0 o ho) _ (pm_lk_mem hq)
    · obtain ⟨n, rfl⟩ : ∃ n, o = n + 10 := ⟨o - 10, by omega⟩
      cases hq
  · exact absurd h.symm hk
theorem pm_f9 {o idx : Nat} (h : pm_lib o idx = 1) : Cond.methodLink (pm_cn o) idx Lib.objectInit ∈ pm_words ∧ Cond.instanceMethod Lib.objectInit ∈ pm_words ∧ Cond.code Lib.objectInit ⟨#[0xb1]⟩ 1 none ∈ pm_words := by
  obtain ⟨p, hp⟩ := pm_lib_ok h (by decide)
  exact ⟨pk_at_mem hp, pk_at_mem (i := pt_o1) (by decide +kernel), pk_at_mem (i := pt_o2) (by decide +kernel)⟩
theorem pm_f10 {o idx : Nat} (h : pm_lib o idx = 2) : Cond.methodLink (pm_cn o) idx Lib.Math.max.name ∈ pm_words ∧ Cond.static Lib.Math.max.name ∈ pm_words ∧ Cond.initialized "java/lang/Math" ∈ pm_words ∧ Cond.code Lib.Math.max.name Lib.Math.max.code 2 (some .int) ∈ pm_words := by
  obtain ⟨p, hp⟩ := pm_lib_ok h (by decide)
  exact ⟨pk_at_mem hp, pk_at_mem (i := pt_max1) (by decide +kernel), pk_at_mem (i := pt_ma) (by decide +kernel), pk_at_mem (i := pt_max2) (by decide +kernel)⟩
theorem pm_f11 {o idx : Nat} (h : pm_lib o idx = 3) : Cond.methodLink (pm_cn o) idx Lib.Math.min.name ∈ pm_words ∧ Cond.static Lib.Math.min.name ∈ pm_words ∧ Cond.initialized "java/lang/Math" ∈ pm_words ∧ Cond.code Lib.Math.min.name Lib.Math.min.code 2 (some .int) ∈ pm_words := by
  obtain ⟨p, hp⟩ := pm_lib_ok h (by decide)
  exact ⟨pk_at_mem hp, pk_at_mem (i := pt_min1) (by decide +kernel), pk_at_mem (i := pt_ma) (by decide +kernel), pk_at_mem (i := pt_min2) (by decide +kernel)⟩
theorem pm_f12 {o idx : Nat} (h : pm_lib o idx = 4) : Cond.methodLink (pm_cn o) idx ⟨"[I", "clone", "()Ljava/lang/Object;"⟩ ∈ pm_words ∧ Cond.sameMethod "[I" "java/lang/Object" "clone" "()Ljava/lang/Object;" ∈ pm_words ∧ Cond.native ⟨"java/lang/Object", "clone", "()Ljava/lang/Object;"⟩ ∈ pm_words ∧ Cond.instanceMethod ⟨"java/lang/Object", "clone", "()Ljava/lang/Object;"⟩ ∈ pm_words ∧
    Cond.selects "[I" ⟨"[I", "clone", "()Ljava/lang/Object;"⟩ ⟨"java/lang/Object", "clone", "()Ljava/lang/Object;"⟩ ∈ pm_words ∧ Cond.castable "[I" "java/lang/Cloneable" ∈ pm_nest := by
  obtain ⟨p, hp⟩ := pm_lib_ok h (by decide)
  exact ⟨pk_at_mem hp, pk_at_mem (i := pt_c1) (by decide +kernel), pk_at_mem (i := pt_c2) (by decide +kernel), pk_at_mem (i := pt_c3) (by decide +kernel), pk_at_mem (i := pt_c4) (by decide +kernel), pk_an_mem (i := pt_c5) (by decide +kernel)⟩
theorem pm_f13 {o idx : Nat} (h : pm_lib o idx = 5) : Cond.classLink (pm_cn o) idx "[I" ∈ pm_words := by
  obtain ⟨p, hp⟩ := pm_lib_ok h (by decide)
  exact pk_at_mem hp
def pm_tys (cI : Bool → ClassId) (cR : Nat → ClassId) : List (ClassId × FieldType) := (cI false, .int) :: (cI true, .boolean) :: pm_ra.map (fun t => (cR t, .object (pm_cn t)))
theorem pm_ra_anew : ∀ t ∈ pm_ra, ∃ o idx, pm_anew o idx = some t := by
  have h : ∀ t ∈ pm_ra, (List.range 10).any (fun o => (pt_anew o).any (fun e => Nat.beq e.2.1 t && (match pm_anew o e.1 with | some t' => Nat.beq t' t | none => false))) = true := by decide +kernel
  intro t ht
  obtain ⟨o, -, h1⟩ := List.any_eq_true.mp (h t ht)
  obtain ⟨e, -, h2⟩ := List.any_eq_true.mp h1
  simp only [Bool.and_eq_true] at h2
  refine ⟨o, e.1, ?_⟩
  have h3 := h2.2
  split at h3
  · rename_i t' ht'
    rw [ht', Nat.eq_of_beq_eq_true h3]
  · cases h3
