theorem pm_run_dle {xs : List Int32} : ∀ {n d e m pc : Nat} {L st : List Value} {h : pm_H} {r : Option Value × pm_H}, d ≤ e → pm_run xs n d m pc L st h = some r → pm_run xs n e m pc L st h = some r := by
  intro n
  induction n with
  | zero => intro d e m pc L st h r _ ev; simp [pm_run] at ev
  | succ n ih =>
    intro d e m pc L st h r hk ev
    unfold pm_run at ev ⊢
    cases h1 : pm_ins m pc with
    | none => simp [h1] at ev
    | some q0 =>
      obtain ⟨i, nx, tg⟩ := q0
      simp only [h1] at ev ⊢
      cases h2 : pm_ans m i st with
      | some v => simpa only [h2] using ev
      | none =>
        simp only [h2] at ev ⊢
        cases h3 : pm_br i st with
        | some q =>
          obtain ⟨c, st'⟩ := q
          simp only [h3] at ev ⊢
          by_cases hc : c = true
          · rw [if_pos hc] at ev ⊢; exact ih hk ev
          · rw [if_neg hc] at ev ⊢; exact ih hk ev
        | none =>
          simp only [h3] at ev ⊢
          cases h4 : pm_call m i st h with
          | some q =>
            obtain ⟨m', as, st'⟩ := q
            simp only [h4] at ev ⊢
            cases d with
            | zero => simp at ev
            | succ d' =>
              obtain ⟨e', rfl⟩ : ∃ j, e = j + 1 := ⟨e - 1, by omega⟩
              simp only at ev ⊢
              cases h5 : pm_run xs n d' m' 0 (pm_entry as (pm_maxL m')) [] h with
              | none => simp [h5] at ev
              | some q =>
                obtain ⟨v, h'⟩ := q
                rw [ih (by omega) h5]
                simp only [h5] at ev ⊢
                exact ih hk ev
          | none =>
            simp only [h4] at ev ⊢
            cases h5 : pm_step m i pc nx L st h xs with
            | none => simp [h5] at ev
            | some q =>
              obtain ⟨pc', L', st', h'⟩ := q
              simp only [h5] at ev ⊢
              exact ih hk ev
def pm_W (xs : List Int32) (d m pc : Nat) (L st : List Value) (h : pm_H) (Q : Option Value → pm_H → Prop) : Prop := ∃ (n : Nat) (v : Option Value) (h' : pm_H), pm_run xs n d m pc L st h = some (v, h') ∧ Q v h'
def pm_X (xs : List Int32) (d m : Nat) (as : List Value) (h : pm_H) (Q : Option Value → pm_H → Prop) : Prop := pm_W xs d m 0 (pm_entry as (pm_maxL m)) [] h Q
def pm_relP (c : Jvm.ClassFile.Cond) (x y : Int32) : Prop := match c with
  | .eq => x = y
  | .ne => ¬ x = y
  | .lt => x < y
  | .ge => y ≤ x
  | .gt => y < x
  | .le => x ≤ y
theorem pm_rel_iff {c : Jvm.ClassFile.Cond} {x y : Int32} : pm_rel c x y = true ↔ pm_relP c x y := by
  cases c <;> exact decide_eq_true_iff
section PMW
variable {xs : List Int32} {d m pc : Nat} {L st : List Value} {h : pm_H} {Q Q' : Option Value → pm_H → Prop}
theorem pm_W.mono (k : pm_W xs d m pc L st h Q) (hQ : ∀ v h', Q v h' → Q' v h') : pm_W xs d m pc L st h Q' := by
  obtain ⟨n, v, h', e, q⟩ := k
  exact ⟨n, v, h', e, hQ v h' q⟩
theorem pm_X.mono {as : List Value} (k : pm_X xs d m as h Q) (hQ : ∀ v h', Q v h' → Q' v h') : pm_X xs d m as h Q' := pm_W.mono k hQ
theorem pm_X.deep {d' : Nat} {as : List Value} (k : pm_X xs d m as h Q) (hd : d ≤ d') : pm_X xs d' m as h Q := by
  obtain ⟨n, v, h', e, q⟩ := k
  exact ⟨n, v, h', pm_run_dle hd e, q⟩
theorem pm_W.ans {i : Instr} {nx tg : Nat} {v : Option Value} (hi : pm_ins m pc = some (i, nx, tg)) (ha : pm_ans m i st = some v) (q : Q v h) : pm_W xs d m pc L st h Q :=
  ⟨1, v, h, by simp only [pm_run, hi, ha], q⟩
theorem pm_W.br {i : Instr} {nx tg : Nat} {c : Bool} {st' : List Value} (hi : pm_ins m pc = some (i, nx, tg)) (ha : pm_ans m i st = none) (hb : pm_br i st = some (c, st'))
    (kt : c = true → pm_W xs d m tg L st' h Q) (kf : c = false → pm_W xs d m nx L st' h Q) : pm_W xs d m pc L st h Q := by
  cases c with
  | true =>
    obtain ⟨n, v, h', e, q⟩ := kt rfl
    exact ⟨n + 1, v, h', by simp only [pm_run, hi, ha, hb, if_true]; exact e, q⟩
  | false =>
    obtain ⟨n, v, h', e, q⟩ := kf rfl
    exact ⟨n + 1, v, h', by simp only [pm_run, hi, ha, hb]; simpa using e, q⟩
theorem pm_W.step {i : Instr} {nx tg pc' : Nat} {L' st' : List Value} {h1 : pm_H} (hi : pm_ins m pc = some (i, nx, tg)) (ha : pm_ans m i st = none) (hb : pm_br i st = none) (hc : pm_call m i st h = none) (hs : pm_step m i pc nx L st h xs = some (pc', L', st', h1))
    (k : pm_W xs d m pc' L' st' h1 Q) : pm_W xs d m pc L st h Q := by
  obtain ⟨n, v, h', e, q⟩ := k
  exact ⟨n + 1, v, h', by simp only [pm_run, hi, ha, hb, hc, hs]; exact e, q⟩
theorem pm_W.call {i : Instr} {nx tg m' d' : Nat} {as st' : List Value} (hi : pm_ins m pc = some (i, nx, tg)) (ha : pm_ans m i st = none) (hb : pm_br i st = none) (hc : pm_call m i st h = some (m', as, st')) (hd : d' + 1 ≤ d)
    (k : pm_X xs d' m' as h (fun v h1 => pm_W xs d m nx L (v.toList ++ st') h1 Q)) : pm_W xs d m pc L st h Q := by
  obtain ⟨n1, v1, h1, e1, n2, v, h', e2, q⟩ := k
  obtain ⟨d, rfl⟩ : ∃ j, d = j + 1 := ⟨d - 1, by omega⟩
  refine ⟨max n1 n2 + 1, v, h', ?_, q⟩
  simp only [pm_run, hi, ha, hb, hc, pm_run_le (Nat.le_max_left n1 n2) (pm_run_dle (by omega : d' ≤ d) e1)]
  exact pm_run_le (Nat.le_max_right n1 n2) e2
theorem pm_ts_only {i : Instr} {st' : List Value} (hs : pm_ts i L st = some st') : pm_ans m i st = none ∧ pm_br i st = none ∧ pm_call m i st h = none := by
  cases i <;> first | exact ⟨rfl, rfl, rfl⟩ | (simp [pm_ts] at hs; done)
theorem pm_W.ts {i : Instr} {nx tg : Nat} {st' : List Value} (hi : pm_ins m pc = some (i, nx, tg)) (hs : pm_ts i L st = some st') (k : pm_W xs d m nx L st' h Q) : pm_W xs d m pc L st h Q := by
  obtain ⟨h1, h2, h3⟩ := pm_ts_only (m := m) (h := h) hs
  exact pm_W.step hi h1 h2 h3 (by simp only [pm_step, hs]) k
theorem pm_tl_only {i : Instr} {q : List Value × List Value} (hs : pm_tl i L st = some q) : pm_ans m i st = none ∧ pm_br i st = none ∧ pm_call m i st h = none ∧ pm_ts i L st = none := by
  cases i <;> first | exact ⟨rfl, rfl, rfl, rfl⟩ | (simp [pm_tl] at hs; done)
theorem pm_W.tl {i : Instr} {nx tg : Nat} {L' st' : List Value} (hi : pm_ins m pc = some (i, nx, tg)) (hs : pm_tl i L st = some (L', st')) (k : pm_W xs d m nx L' st' h Q) : pm_W xs d m pc L st h Q := by
  obtain ⟨h1, h2, h3, h4⟩ := pm_tl_only (m := m) (h := h) hs
  exact pm_W.step hi h1 h2 h3 (by simp only [pm_step, hs, h4]) k
theorem pm_W.icmp {c : Jvm.ClassFile.Cond} {off : Int} {nx tg : Nat} {x y : Int32} (hi : pm_ins m pc = some (.if_icmp c off, nx, tg)) (kt : pm_relP c x y → pm_W xs d m tg L st h Q) (kf : ¬ pm_relP c x y → pm_W xs d m nx L st h Q) : pm_W xs d m pc L (.int y :: .int x :: st) h Q :=
  pm_W.br hi rfl rfl (fun z => kt (pm_rel_iff.mp z)) (fun z => kf (fun q => by rw [pm_rel_iff.mpr q] at z; cases z))
theorem pm_W.ifz {c : Jvm.ClassFile.Cond} {off : Int} {nx tg : Nat} {x : Int32} (hi : pm_ins m pc = some (.ifCond c off, nx, tg)) (kt : pm_relP c x 0 → pm_W xs d m tg L st h Q) (kf : ¬ pm_relP c x 0 → pm_W xs d m nx L st h Q) : pm_W xs d m pc L (.int x :: st) h Q :=
  pm_W.br hi rfl rfl (fun z => kt (pm_rel_iff.mp z)) (fun z => kf (fun q => by rw [pm_rel_iff.mpr q] at z; cases z))
theorem pm_W.goto {off : Int} {nx tg : Nat} (hi : pm_ins m pc = some (.goto off, nx, tg)) (k : pm_W xs d m tg L st h Q) : pm_W xs d m pc L st h Q :=
  pm_W.br hi rfl rfl (fun _ => k) (fun z => by cases z)
theorem pm_W.ifnullN {off : Int} {nx tg : Nat} (hi : pm_ins m pc = some (.ifnull off, nx, tg)) (k : pm_W xs d m tg L st h Q) : pm_W xs d m pc L (.null :: st) h Q :=
  pm_W.br hi rfl rfl (fun _ => k) (fun z => by cases z)
theorem pm_W.ifnullR {off : Int} {nx tg a : Nat} (hi : pm_ins m pc = some (.ifnull off, nx, tg)) (k : pm_W xs d m nx L st h Q) : pm_W xs d m pc L (.ref a :: st) h Q :=
  pm_W.br hi rfl rfl (fun z => by cases z) (fun _ => k)
theorem pm_W.ifnonnullN {off : Int} {nx tg : Nat} (hi : pm_ins m pc = some (.ifnonnull off, nx, tg)) (k : pm_W xs d m nx L st h Q) : pm_W xs d m pc L (.null :: st) h Q :=
  pm_W.br hi rfl rfl (fun z => by cases z) (fun _ => k)
theorem pm_W.ifnonnullR {off : Int} {nx tg a : Nat} (hi : pm_ins m pc = some (.ifnonnull off, nx, tg)) (k : pm_W xs d m tg L st h Q) : pm_W xs d m pc L (.ref a :: st) h Q :=
  pm_W.br hi rfl rfl (fun _ => k) (fun z => by cases z)
theorem pm_W.sw {i : Instr} {nx tg t : Nat} {off : Int} {st' : List Value} (hi : pm_ins m pc = some (i, nx, tg)) (hs : pm_sw i st = some (off, st')) (ht : pm_to pc off = some t) (k : pm_W xs d m t L st' h Q) : pm_W xs d m pc L st h Q := by
  have h1 : pm_ans m i st = none ∧ pm_br i st = none ∧ pm_call m i st h = none ∧ pm_ts i L st = none ∧ pm_tl i L st = none ∧ pm_hp m i st h xs = none := by
    cases i <;> first | exact ⟨rfl, rfl, rfl, rfl, rfl, rfl⟩ | (simp [pm_sw] at hs; done)
  obtain ⟨h1, h2, h3, h4, h5, h6⟩ := h1
  exact pm_W.step hi h1 h2 h3 (by simp only [pm_step, hs, ht, h4, h5, h6]) k
theorem pm_W.hp {i : Instr} {nx tg : Nat} {st' : List Value} {h1 : pm_H} (hi : pm_ins m pc = some (i, nx, tg)) (hc : pm_call m i st h = none) (hs : pm_hp m i st h xs = some (st', h1)) (k : pm_W xs d m nx L st' h1 Q) : pm_W xs d m pc L st h Q := by
  have h1 : pm_ans m i st = none ∧ pm_br i st = none ∧ pm_ts i L st = none ∧ pm_tl i L st = none := by
    cases i <;> first | exact ⟨rfl, rfl, rfl, rfl⟩ | (simp [pm_hp] at hs; done)
  obtain ⟨h1, h2, h4, h5⟩ := h1
  exact pm_W.step hi h1 h2 hc (by simp only [pm_step, hs, h4, h5]) k
theorem pm_W.get {idx nx tg a c k : Nat} {fs : List Value} {v : Value} (hi : pm_ins m pc = some (.getfield idx, nx, tg)) (hf : pm_fld (pm_own m) idx = some (c, k)) (ha : h.1[a]? = some (.inr (.inr (c, fs)))) (hv : fs[k]? = some v)
    (kk : pm_W xs d m nx L (v :: st) h Q) : pm_W xs d m pc L (.ref a :: st) h Q :=
  pm_W.hp hi rfl (by simp [pm_hp, pm_hget, hf, ha, hv]) kk
theorem pm_W.put {idx nx tg a c k : Nat} {fs : List Value} {v : Value} (hi : pm_ins m pc = some (.putfield idx, nx, tg)) (hf : pm_fld (pm_own m) idx = some (c, k)) (ha : h.1[a]? = some (.inr (.inr (c, fs)))) (hl : k < fs.length) (hok : pm_ok (pm_fty c k) v = true) (hfin : pm_fin c k = false ∨ (pm_init m = true ∧ pm_own m = c))
    (kk : pm_W xs d m nx L st (h.1.set a (.inr (.inr (c, fs.set k v))), h.2) Q) : pm_W xs d m pc L (v :: .ref a :: st) h Q :=
  pm_W.hp hi rfl (by simp [pm_hp, pm_hput, hf, ha, hl, hok, hfin]) kk
theorem pm_W.iald {nx tg a k : Nat} {j : Int32} {ys : List Int32} (hi : pm_ins m pc = some (.iaload, nx, tg)) (ha : h.1[a]? = some (.inl (false, ys))) (hj : pm_ix j ys.length = some k)
    (kk : pm_W xs d m nx L (.int (ys.getD k 0) :: st) h Q) : pm_W xs d m pc L (.int j :: .ref a :: st) h Q :=
  pm_W.hp hi rfl (by simp [pm_hp, pm_hiald, ha, hj]) kk
theorem pm_W.sald {nx tg k : Nat} {j : Int32} (hi : pm_ins m pc = some (.iaload, nx, tg)) (hj : pm_ix j xs.length = some k)
    (kk : pm_W xs d m nx L (.int (xs.getD k 0) :: st) h Q) : pm_W xs d m pc L (.int j :: .retAddr 1 :: st) h Q :=
  pm_W.hp hi rfl (by simp [pm_hp, pm_hiald, hj]) kk
theorem pm_W.iast {nx tg a k : Nat} {j x : Int32} {ys : List Int32} (hi : pm_ins m pc = some (.iastore, nx, tg)) (ha : h.1[a]? = some (.inl (false, ys))) (hj : pm_ix j ys.length = some k)
    (kk : pm_W xs d m nx L st (h.1.set a (.inl (false, ys.set k x)), h.2) Q) : pm_W xs d m pc L (.int x :: .int j :: .ref a :: st) h Q :=
  pm_W.hp hi rfl (by simp [pm_hp, pm_hiast, ha, hj]) kk
theorem pm_W.bald {nx tg a k : Nat} {j : Int32} {ys : List Int32} (hi : pm_ins m pc = some (.baload, nx, tg)) (ha : h.1[a]? = some (.inl (true, ys))) (hj : pm_ix j ys.length = some k)
    (kk : pm_W xs d m nx L (.int (ys.getD k 0) :: st) h Q) : pm_W xs d m pc L (.int j :: .ref a :: st) h Q :=
  pm_W.hp hi rfl (by simp [pm_hp, pm_hbald, ha, hj]) kk
theorem pm_W.bast {nx tg a k : Nat} {j x : Int32} {ys : List Int32} (hi : pm_ins m pc = some (.bastore, nx, tg)) (ha : h.1[a]? = some (.inl (true, ys))) (hj : pm_ix j ys.length = some k) (hx : (x == 0 || x == 1) = true)
    (kk : pm_W xs d m nx L st (h.1.set a (.inl (true, ys.set k x)), h.2) Q) : pm_W xs d m pc L (.int x :: .int j :: .ref a :: st) h Q :=
  pm_W.hp hi rfl (by simp only [pm_hp, pm_hbast, ha, hj, hx, if_true]) kk
theorem pm_W.newz {nx tg : Nat} {n : Int32} (hi : pm_ins m pc = some (.newarray .boolean, nx, tg)) (h0 : ¬ n < 0) (hn : n.toNatClampNeg ≤ 65536)
    (kk : pm_W xs d m nx L (.ref h.1.length :: st) (h.1 ++ [.inl (true, List.replicate n.toNatClampNeg 0)], h.2 + n.toNatClampNeg) Q) : pm_W xs d m pc L (.int n :: st) h Q :=
  pm_W.hp hi rfl (by simp only [pm_hp, pm_hnewa]; rw [if_neg (fun z => z.elim h0 (Nat.not_lt.mpr hn))]) kk
theorem pm_W.aald {nx tg a k t : Nat} {j : Int32} {rs : List (Option Nat)} (hi : pm_ins m pc = some (.aaload, nx, tg)) (ha : h.1[a]? = some (.inr (.inl (t, rs)))) (hj : pm_ix j rs.length = some k) (ht : t ∈ pm_ra)
    (kk : pm_W xs d m nx L (pm_rv (rs.getD k none) :: st) h Q) : pm_W xs d m pc L (.int j :: .ref a :: st) h Q :=
  pm_W.hp hi rfl (by simp [pm_hp, pm_haald, ha, hj, ht]) kk
theorem pm_W.aast {nx tg a v k t : Nat} {j : Int32} {rs : List (Option Nat)} {vs : List Value} (hi : pm_ins m pc = some (.aastore, nx, tg)) (ha : h.1[a]? = some (.inr (.inl (t, rs)))) (hv : h.1[v]? = some (.inr (.inr (t, vs)))) (hj : pm_ix j rs.length = some k) (ht : t ∈ pm_ra)
    (kk : pm_W xs d m nx L st (h.1.set a (.inr (.inl (t, rs.set k (some v)))), h.2) Q) : pm_W xs d m pc L (.ref v :: .int j :: .ref a :: st) h Q :=
  pm_W.hp hi rfl (by simp [pm_hp, pm_haast, ha, hv, hj, ht]) kk
theorem pm_W.aastN {nx tg a k t : Nat} {j : Int32} {rs : List (Option Nat)} (hi : pm_ins m pc = some (.aastore, nx, tg)) (ha : h.1[a]? = some (.inr (.inl (t, rs)))) (hj : pm_ix j rs.length = some k) (ht : t ∈ pm_ra)
    (kk : pm_W xs d m nx L st (h.1.set a (.inr (.inl (t, rs.set k none))), h.2) Q) : pm_W xs d m pc L (.null :: .int j :: .ref a :: st) h Q :=
  pm_W.hp hi rfl (by simp [pm_hp, pm_haast, ha, hj, ht]) kk
theorem pm_W.alen {nx tg a : Nat} {ys : List Int32} (hi : pm_ins m pc = some (.arraylength, nx, tg)) (ha : h.1[a]? = some (.inl (false, ys))) (kk : pm_W xs d m nx L (.int (Int32.ofNat ys.length) :: st) h Q) : pm_W xs d m pc L (.ref a :: st) h Q :=
  pm_W.hp hi rfl (by simp [pm_hp, pm_halen, ha]) kk
theorem pm_W.alenR {nx tg a t : Nat} {rs : List (Option Nat)} (hi : pm_ins m pc = some (.arraylength, nx, tg)) (ha : h.1[a]? = some (.inr (.inl (t, rs)))) (ht : t ∈ pm_ra) (kk : pm_W xs d m nx L (.int (Int32.ofNat rs.length) :: st) h Q) : pm_W xs d m pc L (.ref a :: st) h Q :=
  pm_W.hp hi rfl (by simp [pm_hp, pm_halen, ha, ht]) kk
theorem pm_W.slen {nx tg : Nat} (hi : pm_ins m pc = some (.arraylength, nx, tg)) (kk : pm_W xs d m nx L (.int (Int32.ofNat xs.length) :: st) h Q) : pm_W xs d m pc L (.retAddr 1 :: st) h Q :=
  pm_W.hp hi rfl (by simp [pm_hp, pm_halen]) kk
theorem pm_W.new {idx nx tg : Nat} {q : Nat × List Value} (hi : pm_ins m pc = some (.new idx, nx, tg)) (hf : pm_new (pm_own m) idx = some q)
    (kk : pm_W xs d m nx L (.ref h.1.length :: st) (h.1 ++ [.inr (.inr q)], h.2 + q.2.length) Q) : pm_W xs d m pc L st h Q :=
  pm_W.hp hi rfl (by simp [pm_hp, pm_hnew, hf]) kk
theorem pm_W.newa {nx tg : Nat} {n : Int32} (hi : pm_ins m pc = some (.newarray .int, nx, tg)) (h0 : ¬ n < 0) (hn : n.toNatClampNeg ≤ 65536)
    (kk : pm_W xs d m nx L (.ref h.1.length :: st) (h.1 ++ [.inl (false, List.replicate n.toNatClampNeg 0)], h.2 + n.toNatClampNeg) Q) : pm_W xs d m pc L (.int n :: st) h Q :=
  pm_W.hp hi rfl (by simp only [pm_hp, pm_hnewa]; rw [if_neg (fun z => z.elim h0 (Nat.not_lt.mpr hn))]) kk
theorem pm_W.anew {idx nx tg t : Nat} {n : Int32} (hi : pm_ins m pc = some (.anewarray idx, nx, tg)) (hf : pm_anew (pm_own m) idx = some t) (h0 : ¬ n < 0) (hn : n.toNatClampNeg ≤ 65536)
    (kk : pm_W xs d m nx L (.ref h.1.length :: st) (h.1 ++ [.inr (.inl (t, List.replicate n.toNatClampNeg none))], h.2 + n.toNatClampNeg) Q) : pm_W xs d m pc L (.int n :: st) h Q :=
  pm_W.hp hi rfl (by simp only [pm_hp, pm_hanew, hf]; rw [if_neg (fun z => z.elim h0 (Nat.not_lt.mpr hn))]) kk
theorem pm_W.ldc {idx nx tg : Nat} {v : Value} (hi : pm_ins m pc = some (.ldc idx, nx, tg)) (hf : pm_con (pm_own m) idx = some v) (kk : pm_W xs d m nx L (v :: st) h Q) : pm_W xs d m pc L st h Q :=
  pm_W.hp hi rfl (by simp [pm_hp, pm_hcon, hf]) kk
theorem pm_W.ldc2 {idx nx tg : Nat} {v : Value} (hi : pm_ins m pc = some (.ldc2_w idx, nx, tg)) (hf : pm_con2 (pm_own m) idx = some v) (kk : pm_W xs d m nx L (v :: st) h Q) : pm_W xs d m pc L st h Q :=
  pm_W.hp hi rfl (by simp [pm_hp, pm_hcon, hf]) kk
theorem pm_W.obj {idx nx tg a : Nat} (hi : pm_ins m pc = some (.invokespecial idx, nx, tg)) (hn : pm_inv (pm_own m) idx = none) (hl : pm_lib (pm_own m) idx = 1) (hsm : pm_sm st = true) (kk : pm_W xs d m nx L st h Q) : pm_W xs d m pc L (.ref a :: st) h Q :=
  pm_W.hp hi (by simp [pm_call, pm_cidx, hn]) (by simp [pm_hp, pm_hobj, hl, hsm]) kk
theorem pm_W.max {idx nx tg : Nat} {x y : Int32} (hi : pm_ins m pc = some (.invokestatic idx, nx, tg)) (hn : pm_inv (pm_own m) idx = none) (hl : pm_lib (pm_own m) idx = 2) (hsm : pm_sm st = true) (kk : pm_W xs d m nx L (.int (if x < y then y else x) :: st) h Q) : pm_W xs d m pc L (.int y :: .int x :: st) h Q :=
  pm_W.hp hi (by simp [pm_call, pm_cidx, hn]) (by simp [pm_hp, pm_hmax, hl, hsm]) kk
theorem pm_W.min {idx nx tg : Nat} {x y : Int32} (hi : pm_ins m pc = some (.invokestatic idx, nx, tg)) (hn : pm_inv (pm_own m) idx = none) (hl : pm_lib (pm_own m) idx = 3) (hsm : pm_sm st = true) (kk : pm_W xs d m nx L (.int (if y < x then y else x) :: st) h Q) : pm_W xs d m pc L (.int y :: .int x :: st) h Q :=
  pm_W.hp hi (by simp [pm_call, pm_cidx, hn]) (by simp [pm_hp, pm_hmax, hl, hsm]) kk
theorem pm_W.clone {idx nx tg a : Nat} {ys : List Int32} (hi : pm_ins m pc = some (.invokevirtual idx, nx, tg)) (hn : pm_inv (pm_own m) idx = none) (hl : pm_lib (pm_own m) idx = 4) (hsm : pm_sm st = true) (ha : h.1[a]? = some (.inl (false, ys)))
    (kk : pm_W xs d m nx L (.ref h.1.length :: st) (h.1 ++ [.inl (false, ys)], h.2 + ys.length) Q) : pm_W xs d m pc L (.ref a :: st) h Q :=
  pm_W.hp hi (by simp [pm_call, pm_cidx, hn]) (by simp [pm_hp, pm_hclone, hl, hsm, ha]) kk
theorem pm_W.cast {idx nx tg a : Nat} {ys : List Int32} (hi : pm_ins m pc = some (.checkcast idx, nx, tg)) (hl : pm_lib (pm_own m) idx = 5) (ha : h.1[a]? = some (.inl (false, ys))) (kk : pm_W xs d m nx L (.ref a :: st) h Q) : pm_W xs d m pc L (.ref a :: st) h Q :=
  pm_W.hp hi rfl (by simp [pm_hp, pm_hcast, hl, ha]) kk
theorem pm_W.callS {idx nx tg m' n d' : Nat} {as st' : List Value} (hi : pm_ins m pc = some (.invokestatic idx, nx, tg)) (hv : pm_inv (pm_own m) idx = some (m', n, 0)) (hp : pm_pop n [] st = some (as, st')) (hsm : pm_sm st' = true) (hl : (pm_sl as).length ≤ pm_maxL m') (hd : d' + 1 ≤ d)
    (k : pm_X xs d' m' as h (fun v h1 => pm_W xs d m nx L (v.toList ++ st') h1 Q)) : pm_W xs d m pc L st h Q :=
  pm_W.call hi rfl rfl (by simp [pm_call, pm_cidx, hv, hp, pm_chk8, hsm, hl]) hd k
theorem pm_W.callV {idx nx tg m' n d' a : Nat} {as st' fs : List Value} (hi : pm_ins m pc = some (.invokevirtual idx, nx, tg)) (hv : pm_inv (pm_own m) idx = some (m', n, 1)) (hp : pm_pop n [] st = some (as, .ref a :: st')) (hsm : pm_sm st' = true) (hl : (pm_sl (.ref a :: as)).length ≤ pm_maxL m') (ha : h.1[a]? = some (.inr (.inr (pm_own m', fs)))) (hd : d' + 1 ≤ d)
    (k : pm_X xs d' m' (.ref a :: as) h (fun v h1 => pm_W xs d m nx L (v.toList ++ st') h1 Q)) : pm_W xs d m pc L st h Q :=
  pm_W.call hi rfl rfl (by simp [pm_call, pm_cidx, hv, hp, pm_recv, ha, pm_chk8, hsm, hl]) hd k
theorem pm_W.callI {idx nx tg m' n d' a : Nat} {as st' fs : List Value} (hi : pm_ins m pc = some (.invokespecial idx, nx, tg)) (hv : pm_inv (pm_own m) idx = some (m', n, 2)) (hp : pm_pop n [] st = some (as, .ref a :: st')) (hsm : pm_sm st' = true) (hl : (pm_sl (.ref a :: as)).length ≤ pm_maxL m') (ha : h.1[a]? = some (.inr (.inr (pm_own m', fs)))) (hd : d' + 1 ≤ d)
    (k : pm_X xs d' m' (.ref a :: as) h (fun v h1 => pm_W xs d m nx L (v.toList ++ st') h1 Q)) : pm_W xs d m pc L st h Q :=
  pm_W.call hi rfl rfl (by simp [pm_call, pm_cidx, hv, hp, pm_recv, ha, pm_chk8, hsm, hl]) hd k
theorem pm_W.iret {nx tg : Nat} {x : Int32} (hi : pm_ins m pc = some (.ireturn, nx, tg)) (hr : pm_rok (pm_rt m) x = true) (q : Q (some (.int x)) h) : pm_W xs d m pc L [.int x] h Q :=
  pm_W.ans hi (by simp [pm_ans, hr]) q
theorem pm_W.aretR {nx tg a : Nat} (hi : pm_ins m pc = some (.areturn, nx, tg)) (hr : pm_rr (pm_rt m) = true) (q : Q (some (.ref a)) h) : pm_W xs d m pc L [.ref a] h Q :=
  pm_W.ans hi (by simp [pm_ans, hr]) q
theorem pm_W.aretN {nx tg : Nat} (hi : pm_ins m pc = some (.areturn, nx, tg)) (hr : pm_rr (pm_rt m) = true) (q : Q (some .null) h) : pm_W xs d m pc L [.null] h Q :=
  pm_W.ans hi (by simp [pm_ans, hr]) q
theorem pm_W.lret {nx tg : Nat} {x : Int64} (hi : pm_ins m pc = some (.lreturn, nx, tg)) (hr : pm_rt m = some .long) (q : Q (some (.long x)) h) : pm_W xs d m pc L [.long x] h Q :=
  pm_W.ans hi (by simp [pm_ans, hr]) q
theorem pm_W.ret {nx tg : Nat} (hi : pm_ins m pc = some (.return_, nx, tg)) (hr : pm_rt m = none) (q : Q none h) : pm_W xs d m pc L [] h Q :=
  pm_W.ans hi (by simp [pm_ans, hr]) q
theorem pm_W.irem {nx tg : Nat} {x y : Int32} (hi : pm_ins m pc = some (.irem, nx, tg)) (hy : ¬ y = 0) (k : pm_W xs d m nx L (.int (x - x / y * y) :: st) h Q) : pm_W xs d m pc L (.int y :: .int x :: st) h Q :=
  pm_W.ts hi (by simp only [pm_ts, pm_i2, if_neg hy]) k
theorem pm_W.idiv {nx tg : Nat} {x y : Int32} (hi : pm_ins m pc = some (.idiv, nx, tg)) (hy : ¬ y = 0) (k : pm_W xs d m nx L (.int (x / y) :: st) h Q) : pm_W xs d m pc L (.int y :: .int x :: st) h Q :=
  pm_W.ts hi (by simp only [pm_ts, pm_i2, if_neg hy]) k
theorem pm_ix_ok {j k : Nat} (h : j < k) (hk : k < 2 ^ 31) : pm_ix (nI j) k = some j := by
  unfold pm_ix
  rw [if_neg (nI_in h hk), nI_clamp (by omega)]
end PMW
