def pm_rm (d mc ms : Nat) : Room := { frames := d + 1, cells := mc, slots := ms, locals := 36 * (d + 1) }
def pm_ws (m : Nat) : List Cond := .code (pm_y m) (pm_code m) (pm_maxL m) (pm_rt m) :: pm_words
def pm_Sg (D : va_G) (cI : Bool → ClassId) (cR : Nat → ClassId) (B b : Nat) (xs : List Int32) (U : State) : Prop := va_K D vwCl (pm_tys cI cR) U ∧ (∀ w ∈ pm_nest, va_Nw w U) ∧ va_X b xs.length (fun j => xs.getD j 0) U U.heap ∧ b < B ∧ B ≤ U.heap.size
def pm_Pc (D : va_G) (cI : Bool → ClassId) (cR : Nat → ClassId) (B b : Nat) (xs : List Int32) (as : List Value) (h : pm_H) : Array Value → State → Prop := va_Pc (as.map (pm_ren B b)) (fun U => U.heap.size = B + h.1.length ∧ va_P D vwCl (pm_emb cI cR B b h.1) U.heap ∧ pm_Sg D cI cR B b xs U)
def pm_Qc (D : va_G) (cI : Bool → ClassId) (cR : Nat → ClassId) (B b : Nat) (v : Option Value) (h' : pm_H) : Array Value → State → Outcome → State → Prop := fun _ st oc t => oc = .returned (v.map (pm_ren B b)) ∧ va_P D vwCl (pm_emb cI cR B b h'.1) t.heap ∧ va_F (fun q => B ≤ q) st t
section CALL
variable {p : Program} {l : Launch} {e : Env} {R : Room} {s : State} {mi : MethodId} {args : Array Value} {below : List Frame} {meth : Method} {c : Code} {H : Heap} {locs : List Loc} {cells slots mc ms : Nat} {Q : State → Prop}
variable {pc : Nat} {ls : Array Slot} {B b : Nat} {D : va_G} {cI : Bool → ClassId} {cR : Nat → ClassId} {v : Option Value} {h' : pm_H} {rest st0 : List Value} {a : Array Value} {H0 : Heap}
theorem pm_back (hr : va_Run p l e R s mi args below meth c H locs cells slots mc ms (F0 mi pc ls st0) rest (pm_Qc D cI cR B b v h' a) (fun q => B ≤ q)) (hS : va_S (fun q => B ≤ q) H0 H locs)
    (kk : ∀ (H1 : Heap) (locs1 : List Loc), va_P D vwCl (pm_emb cI cR B b h'.1) H1 → va_S (fun q => B ≤ q) H0 H1 locs1 → W p l e R s mi args below meth c H1 locs1 (cells + mc) (slots + ms) Q (F0 mi (pc + 3) ls ((v.map (pm_ren B b)).toList ++ rest))) : W p l e R s mi args below meth c H locs cells slots Q (F0 mi pc ls st0) := by
  intro T hT X
  obtain ⟨w, st₀, t, T', L, h0, X', hL, e1, e2, ⟨hv, hP, hz, hk⟩, st⟩ := hr T hT X
  have hv : w = v.map (pm_ren B b) := Outcome.returned.inj hv
  subst hv
  rw [h0] at hz hk
  obtain ⟨t2, a1, b1⟩ := kk T'.heap (locs ++ L) (by rw [e1]; exact hP)
    ⟨Nat.le_trans hS.1 (by rw [e1]; exact hz), fun q h1 h2 => by rw [e1, hk q (Nat.lt_of_lt_of_le h1 hS.1) h2]; exact hS.2.1 q h1 h2, fun q hq => by
      rcases List.mem_append.mp hq with z | z
      · exact hS.2.2 q z
      · exact hL q z⟩ T' rfl X'
  exact ⟨t2, st t2 a1, b1⟩
end CALL
theorem pm_nest_warm {s U : State} (hW : s.WarmedH U.vm) (hn : ∀ w ∈ pm_nest, va_Nw w s) : ∀ w ∈ pm_nest, va_Nw w U := fun w hw => by
  have h1 : pm_isN w = true := pm_f8 w hw
  have h2 := hn w hw
  cases w with
  | fieldLinkNest a i b n d q => exact va_Nw.warmF hW h2
  | methodLinkNest a i x q => exact va_Nw.warmM hW h2
  | castable C T => exact va_Nw.warmC hW h2
  | arrayOver ty => cases ty with
    | object C => exact va_AO.moved hW.alike h2
    | _ => simp [pm_isN] at h1
  | _ => simp [pm_isN] at h1
theorem pm_blind {D : va_G} {cI : Bool → ClassId} {cR : Nat → ClassId} {B b : Nat} {xs : List Int32} {as : List Value} {h : pm_H} : FrameBlind (pm_Pc D cI cR B b xs as h) := by
  intro a U g mk q
  obtain ⟨q0, q1, q2, q3, q4, q5, q6, q7⟩ := q
  exact ⟨q0, q1, q2, va_K.moved (u := U) (U := U.calling g mk a) (Vm.Alike.refl U.vm) q3, pm_nest_warm (s := U) (U := U.calling g mk a) (State.WarmedH.refl U) q4, va_X.moved (u := U) (U := U.calling g mk a) (Vm.Alike.refl U.vm) q5, q6, q7⟩
theorem pm_pre {s : State} {D : va_G} {cI : Bool → ClassId} {cR : Nat → ClassId} {B b : Nat} {xs : List Int32} {as : List Value} {h : pm_H} {H : Heap} {locs : List Loc} (hK : va_K D vwCl (pm_tys cI cR) s) (hns : ∀ w ∈ pm_nest, va_Nw w s) (hX : va_X b xs.length (fun j => xs.getD j 0) s s.heap) (hbB : b < B) (hBs : B ≤ s.heap.size)
    (hP : va_P D vwCl (pm_emb cI cR B b h.1) H) (hS : va_S (fun q => B ≤ q) s.heap H locs) (hz : H.size = B + h.1.length) : ∀ U : State, U.heap = H → s.WarmedH U.vm → pm_Pc D cI cR B b xs as h (as.map (pm_ren B b)).toArray U := fun U hU hW =>
  ⟨rfl, by rw [hU]; exact hz, by rw [hU]; exact hP, va_K.moved hW.alike hK, pm_nest_warm hW hns, by rw [hU]; exact (hX.kept (hS.2.1 b (by omega) (by omega))).moved hW.alike, hbB, by rw [hU]; omega⟩
theorem pm_sl_len {B b : Nat} (vs : List Value) : (lg_sl (vs.map (pm_ren B b))).length = (pm_sl vs).length := by
  induction vs with
  | nil => rfl
  | cons v vs ih =>
    simp only [lg_sl, List.map_cons, List.flatMap_cons, List.length_append, pm_sl, pm_ren_cat] at ih ⊢
    by_cases hc : v.category = 2 <;> simp [hc, ih] <;> omega
theorem pm_sl_at {B b : Nat} (vs : List Value) : ∀ (o i : Nat) (v : Value), (pm_sl vs)[i]? = some v → v ≠ pm_none → (o + i, pm_ren B b v) ∈ lv_args o (vs.map (pm_ren B b)) := by
  induction vs with
  | nil => intro o i v hv; simp [pm_sl] at hv
  | cons w vs ih =>
    intro o i v hv hn
    simp only [List.map_cons, lv_args, pm_ren_cat]
    by_cases hc : w.category = 2
    · simp only [pm_sl, hc, if_true] at hv ⊢
      cases i with
      | zero => simp at hv; subst hv; exact List.mem_cons_self
      | succ i => cases i with
        | zero => simp at hv; exact absurd hv.symm hn
        | succ i =>
          simp only [List.getElem?_cons_succ] at hv
          have := ih (o + 2) i v hv hn
          exact List.mem_cons_of_mem _ (by rw [show o + (i + 1 + 1) = o + 2 + i by omega]; exact this)
    · simp only [pm_sl, hc, if_false] at hv ⊢
      cases i with
      | zero => simp at hv; subst hv; exact List.mem_cons_self
      | succ i =>
        simp only [List.getElem?_cons_succ] at hv
        have := ih (o + 1) i v hv hn
        exact List.mem_cons_of_mem _ (by rw [show o + (i + 1) = o + 1 + i by omega]; exact this)
theorem pm_L_entry {B b n : Nat} {vs : List Value} (hn : (pm_sl vs).length ≤ n) : pm_L B b ((lg_sl (vs.map (pm_ren B b)) ++ List.replicate (n - (lg_sl (vs.map (pm_ren B b))).length) Slot.unset).toArray) (pm_entry vs n) := by
  have h1 := lv_entry (vs.map (pm_ren B b)) (n := n) (by rw [pm_sl_len]; exact hn)
  have hlen : (pm_entry vs n).length = n := by simp [pm_entry]; omega
  refine ⟨by rw [hlen]; exact h1.1, h1.2.1, fun i v hv hne => ?_⟩
  unfold pm_entry at hv
  by_cases hi : i < (pm_sl vs).length
  · rw [List.getElem?_append_left hi] at hv
    have := h1.2.2 _ (pm_sl_at (B := B) (b := b) vs 0 i v hv hne)
    simpa using this
  · rw [List.getElem?_append_right (by omega), List.getElem?_replicate] at hv
    split at hv
    · cases hv; exact absurd rfl hne
    · cases hv
section CALLOK
variable {m m' n : Nat} {i : Instr} {st st' as : List Value} {h : pm_H}
theorem pm_pop_ok : ∀ {n : Nat} {as as' st st' : List Value}, pm_pop n as st = some (as', st') → ∃ bs : List Value, as' = bs.reverse ++ as ∧ st = bs ++ st' ∧ bs.length = n := by
  intro n
  induction n with
  | zero =>
    intro as as' st st' e
    simp only [pm_pop, Option.some.injEq, Prod.mk.injEq] at e
    obtain ⟨rfl, rfl⟩ := e
    exact ⟨[], rfl, rfl, rfl⟩
  | succ n ih =>
    intro as as' st st' e
    cases st with
    | nil => simp [pm_pop] at e
    | cons v st =>
      simp only [pm_pop] at e
      obtain ⟨bs, rfl, rfl, rfl⟩ := ih e
      exact ⟨v :: bs, by simp, by simp, by simp⟩
theorem pm_chk8_ok {m1 : Nat} {as1 st1 : List Value} (e : pm_chk8 m1 as1 st1 = some (m', as, st')) : m1 = m' ∧ as1 = as ∧ st1 = st' ∧ pm_sm st' = true ∧ (pm_sl as).length ≤ pm_maxL m' := by
  unfold pm_chk8 at e
  split at e
  · rename_i hc
    cases e
    exact ⟨rfl, rfl, rfl, hc.1, hc.2⟩
  · cases e
theorem pm_recv_ok {m1 : Nat} {as1 st1 : List Value} (e : pm_recv m1 as1 st1 h = some (m', as, st')) : ∃ (a : Nat) (fs : List Value), m1 = m' ∧ as = .ref a :: as1 ∧ st1 = .ref a :: st' ∧ h.1[a]? = some (.inr (.inr (pm_own m', fs))) ∧ pm_sm st' = true ∧ (pm_sl as).length ≤ pm_maxL m' := by
  unfold pm_recv at e
  split at e
  · rename_i a rest
    split at e
    · rename_i c fs ha
      split at e
      · rename_i hc
        subst hc
        obtain ⟨rfl, rfl, rfl, q1, q2⟩ := pm_chk8_ok e
        exact ⟨a, fs, rfl, rfl, rfl, ha, q1, q2⟩
      · cases e
    · cases e
  · cases e
theorem pm_call_ok (e : pm_call m i st h = some (m', as, st')) : pm_sm st' = true ∧ (pm_sl as).length ≤ pm_maxL m' ∧ ∃ idx n : Nat,
    (i = .invokestatic idx ∧ pm_inv (pm_own m) idx = some (m', n, 0) ∧ st = as.reverse ++ st' ∧ as.length = n) ∨
    (∃ (a : Nat) (bs fs : List Value), as = .ref a :: bs ∧ st = bs.reverse ++ .ref a :: st' ∧ bs.length = n ∧ h.1[a]? = some (.inr (.inr (pm_own m', fs))) ∧
      ((i = .invokevirtual idx ∧ pm_inv (pm_own m) idx = some (m', n, 1)) ∨ (i = .invokespecial idx ∧ pm_inv (pm_own m) idx = some (m', n, 2)))) := by
  unfold pm_call at e
  split at e
  · cases e
  · rename_i idx kd hi
    split at e
    · cases e
    · rename_i m1 n1 kind hv
      split at e
      · rename_i hk
        subst hk
        split at e
        · cases e
        · rename_i as1 st1 hpop
          obtain ⟨bs, rfl, rfl, hl⟩ := pm_pop_ok hpop
          split at e
          · obtain ⟨rfl, rfl, rfl, q1, q2⟩ := pm_chk8_ok e
            refine ⟨q1, q2, idx, n1, Or.inl ⟨?_, hv, by simp, by simp [hl]⟩⟩
            unfold pm_cidx at hi
            split at hi <;> first | (cases hi; rfl) | cases hi
          · rename_i hne
            obtain ⟨a, fs, rfl, rfl, rfl, q0, q1, q2⟩ := pm_recv_ok e
            refine ⟨q1, q2, idx, n1, Or.inr ⟨a, bs.reverse, fs, by simp, by simp, by simp [hl], q0, ?_⟩⟩
            unfold pm_cidx at hi
            split at hi
            · cases hi; exact absurd rfl hne
            · cases hi; exact Or.inl ⟨rfl, hv⟩
            · cases hi; exact Or.inr ⟨rfl, hv⟩
            · cases hi
      · cases e
end CALLOK

section RUN
variable {l : Launch} {B b : Nat} {D : va_G} {cI : Bool → ClassId} {cR : Nat → ClassId} {xs : List Int32}
def pm_In (l : Launch) (B b : Nat) (D : va_G) (cI : Bool → ClassId) (cR : Nat → ClassId) (xs : List Int32) (n : Nat) : Prop :=
  ∀ (d m pc : Nat) (L st : List Value) (h1 h' : pm_H) (v : Option Value), pm_run xs n d m pc L st h1 = some (v, h') →
  ∀ (p : Program) (e : Env) (R : Room) (s : State) (mi : MethodId) (args : Array Value) (below : List Frame) (meth : Method) (c : Code) (H : Heap) (locs : List Loc) (Q : State → Prop) (ls : Array Slot) (h0 : pm_H),
  pm_Cx p s mi args meth c m B b xs D cI cR → c.maxLocals = L.length → d + 1 ≤ R.frames → 36 * (d + 1) ≤ R.locals → s.heap.size = B + h0.1.length → pm_gr h0 h1 → h'.1.length ≤ h0.1.length + R.cells → h'.2 ≤ h0.2 + R.slots →
  pm_L B b ls L → va_P D vwCl (pm_emb cI cR B b h1.1) H → va_S (fun q => B ≤ q) s.heap H locs →
  (∀ (i : Instr) (pc' : Nat) (st' : List Value) (ls' : Array Slot) (H' : Heap) (locs' : List Loc), decode (pm_code m) pc' = .ok (i, pm_len pc' i) → pm_ans m i st' = some v → va_P D vwCl (pm_emb cI cR B b h'.1) H' → va_S (fun q => B ≤ q) s.heap H' locs' →
    W p l e R s mi args below meth c H' locs' (h'.1.length - h0.1.length) (h'.2 - h0.2) Q (F0 mi pc' ls' (st'.map (pm_ren B b)))) →
  W p l e R s mi args below meth c H locs (h1.1.length - h0.1.length) (h1.2 - h0.2) Q (F0 mi pc ls (st.map (pm_ren B b)))
theorem pm_end {p : Program} {e : Env} {R : Room} {s : State} {mi : MethodId} {args : Array Value} {below : List Frame} {meth : Method} {c : Code} {H : Heap} {locs : List Loc} {m pc cells slots : Nat} {i : Instr} {st : List Value} {ls : Array Slot} {v : Option Value} {h' : pm_H}
    (hx : p.tables.exec = Jvm.exec) (hb : c.code = pm_code m) (hr : meth.sig.returnType = pm_rt m) (hlocks : meth.locks = false) (hd : decode (pm_code m) pc = .ok (i, pm_len pc i)) (ha : pm_ans m i st = some v)
    (hP : va_P D vwCl (pm_emb cI cR B b h'.1) H) (hS : va_S (fun q => B ≤ q) s.heap H locs) :
    W p l e R s mi args below meth c H locs cells slots (MQ below (pm_Qc D cI cR B b v h') args s cells slots (fun q => B ≤ q)) (F0 mi pc ls (st.map (pm_ren B b))) := by
  have hq : ∀ (w : Option Value), w = v.map (pm_ren B b) → ∀ t : State, t.heap = H → s.WarmedH t.vm → pm_Qc D cI cR B b v h' args s (.returned w) t := fun w hw t ht _ => ⟨by rw [hw], by rw [ht]; exact hP, hS.F ht⟩
  unfold pm_ans at ha
  split at ha
  · split at ha
    · rename_i x
      split at ha
      · rename_i hk
        cases ha
        unfold pm_rok at hk
        split at hk
        · rename_i h0
          exact W.iret hx hb (hr.trans h0) (hq _ rfl) hS.2.2 hd hlocks
        · rename_i h0
          exact W.zret hx hb (hr.trans h0) (by rcases pm_01 hk with rfl | rfl <;> rfl) (hq _ rfl) hS.2.2 hd hlocks
        · cases hk
      · cases ha
    · cases ha
  · split at ha
    · rename_i x
      split at ha
      · rename_i hk
        cases ha
        exact W.lret hx hb (hr.trans hk) (hq _ rfl) hS.2.2 hd hlocks
      · cases ha
    · cases ha
  · split at ha
    · rename_i x
      split at ha
      · rename_i hk
        cases ha
        unfold pm_rr at hk
        split at hk
        · rename_i C h0
          exact W.aret hx hb (hr.trans h0) (Or.inl ⟨_, rfl⟩) (Or.inr ⟨_, rfl⟩) (hq _ rfl) hS.2.2 hd hlocks
        · rename_i C h0
          exact W.aret hx hb (hr.trans h0) (Or.inr ⟨_, rfl⟩) (Or.inr ⟨_, rfl⟩) (hq _ rfl) hS.2.2 hd hlocks
        · cases hk
      · cases ha
    · split at ha
      · rename_i hk
        cases ha
        unfold pm_rr at hk
        split at hk
        · rename_i C h0
          exact W.aret hx hb (hr.trans h0) (Or.inl ⟨_, rfl⟩) (Or.inl rfl) (hq _ rfl) hS.2.2 hd hlocks
        · rename_i C h0
          exact W.aret hx hb (hr.trans h0) (Or.inr ⟨_, rfl⟩) (Or.inl rfl) (hq _ rfl) hS.2.2 hd hlocks
        · cases hk
      · cases ha
    · cases ha
  · split at ha
    · split at ha
      · rename_i hk
        cases ha
        exact W.vret hx hb (hr.trans hk) (hq _ rfl) hS.2.2 hd hlocks
      · cases ha
    · cases ha
  · cases ha
theorem pm_met {n : Nat} (ih : pm_In l B b D cI cR xs n) {d m : Nat} {as : List Value} {h h' : pm_H} {v : Option Value} (hrun : pm_run xs n d m 0 (pm_entry as (pm_maxL m)) [] h = some (v, h')) (hn : (pm_sl as).length ≤ pm_maxL m)
    (hpl : plainName (pm_y m).cls = true) (hcn : (pm_y m).cls = pm_cn (pm_own m)) (hin : pm_init m = true → (pm_y m).name = "<init>") :
    Met l (pm_y m) (pm_ws m) (pm_rm d (h'.1.length - h.1.length) (h'.2 - h.2)) (pm_Pc D cI cR B b xs as h) (pm_Qc D cI cR B b v h') (h'.1.length - h.1.length) (h'.2 - h.2) (fun q => B ≤ q) := by
  have hg := pm_run_gr hrun
  refine Met.ofW (cc := pm_code m) (maxL := pm_maxL m) (ret := pm_rt m) hpl rfl ?_
  intro p e s mi args below meth c s₁ Bd hml hv
  obtain ⟨rfl, hsz, hP, hK, hns, hX, hbB, hBs⟩ := hv
  have hx := Bd.exec
  have hb := Bd.bytes
  have hr := Bd.returns
  have hts := atoms_spec (ws := pm_ws m) Bd.pre
  have hown := findClass_of_methodNamed Bd.named
  have hlocks := Bd.notSynchronized
  have hnm := (name_of_methodNamed Bd.named Bd.method).1
  rw [hcn] at hown
  rw [lg_entry_eq]
  have hlen : (pm_entry as (pm_maxL m)).length = pm_maxL m := by simp [pm_entry]; omega
  have hlg := hg.1
  have hlg2 := hg.2
  have k := ih d m 0 (pm_entry as (pm_maxL m)) [] h h' v hrun p e (pm_rm d (h'.1.length - h.1.length) (h'.2 - h.2)) s mi (as.map (pm_ren B b)).toArray below meth c s.heap [] (MQ below (pm_Qc D cI cR B b v h') (as.map (pm_ren B b)).toArray s (h'.1.length - h.1.length) (h'.2 - h.2) (fun q => B ≤ q)) _ h
    ⟨hx, hb, hown, fun z => hnm.trans (hin z), fun w hw => hts w (List.mem_cons_of_mem _ hw), hns, hK, hX, hbB, hBs⟩ (hml.trans hlen.symm) (Nat.le_refl _) (Nat.le_refl _) hsz pm_gr.rf (by show _ ≤ _ + (h'.1.length - h.1.length); omega) (by show _ ≤ _ + (h'.2 - h.2); omega)
    (pm_L_entry (B := B) (b := b) hn) hP va_S.rf (fun i pc' st' ls' H' locs' hd ha hP' hS' => pm_end hx hb hr hlocks hd ha hP' hS')
  exact W.cs (by omega) (by omega) k
theorem pm_toList_ren {v : Option Value} {st : List Value} : (v.toList ++ st).map (pm_ren B b) = (v.map (pm_ren B b)).toList ++ st.map (pm_ren B b) := by cases v <;> rfl
theorem pm_call_go {n : Nat} (ih : pm_In l B b D cI cR xs n) {p : Program} {e : Env} {R : Room} {s : State} {mi : MethodId} {args : Array Value} {below : List Frame} {meth : Method} {c : Code} {H : Heap} {locs : List Loc} {Q : State → Prop} {ls : Array Slot} {h0 h1 h2 : pm_H}
    {d m m' pc : Nat} {i : Instr} {st st' as L : List Value} {v : Option Value}
    (hC : pm_Cx p s mi args meth c m B b xs D cI cR) (hml : c.maxLocals = L.length) (hfr : d + 2 ≤ R.frames) (hlo : 36 * (d + 2) ≤ R.locals) (hz0 : s.heap.size = B + h0.1.length) (hle : pm_gr h0 h1) (hc1 : h2.1.length ≤ h0.1.length + R.cells) (hs1 : h2.2 ≤ h0.2 + R.slots)
    (hL : pm_L B b ls L) (hP : va_P D vwCl (pm_emb cI cR B b h1.1) H) (hS : va_S (fun q => B ≤ q) s.heap H locs) (hd : decode (pm_code m) pc = .ok (i, pm_len pc i))
    (hcall : pm_call m i st h1 = some (m', as, st')) (hrun : pm_run xs n d m' 0 (pm_entry as (pm_maxL m')) [] h1 = some (v, h2))
    (k : ∀ (H2 : Heap) (locs2 : List Loc), va_P D vwCl (pm_emb cI cR B b h2.1) H2 → va_S (fun q => B ≤ q) s.heap H2 locs2 → W p l e R s mi args below meth c H2 locs2 (h2.1.length - h0.1.length) (h2.2 - h0.2) Q (F0 mi (pc + pm_len pc i) ls ((v.toList ++ st').map (pm_ren B b)))) :
    W p l e R s mi args below meth c H locs (h1.1.length - h0.1.length) (h1.2 - h0.2) Q (F0 mi pc ls (st.map (pm_ren B b))) := by
  obtain ⟨hx, hb, hown, hin, hts, hns, hK, hX, hbB, hBs⟩ := hC
  obtain ⟨le1, le2⟩ := hle
  obtain ⟨gr1, gr2⟩ := pm_run_gr hrun
  obtain ⟨hsm, hn, idx, np, hcases⟩ := pm_call_ok hcall
  have hsm' := pm_sm_ren (B := B) (b := b) hsm
  refine pm_W_size fun hz1 => ?_
  have hz2 := pm_le hP (Nat.le_trans hBs hS.1)
  have hz : H.size = B + h1.1.length := by omega
  have hpre := pm_pre (as := as) (h := h1) hK hns hX hbB hBs hP hS hz
  have hGI : GoodIn pm_words pm_words := fun w hw => ⟨hw, good_of_word (pm_good hw)⟩
  have hsz : ls.size = L.length := hL.1
  have fin : ∀ (H2 : Heap) (locs2 : List Loc), va_P D vwCl (pm_emb cI cR B b h2.1) H2 → va_S (fun q => B ≤ q) s.heap H2 locs2 → pm_len pc i = 3 → W p l e R s mi args below meth c H2 locs2 (h1.1.length - h0.1.length + (h2.1.length - h1.1.length)) (h1.2 - h0.2 + (h2.2 - h1.2)) Q (F0 mi (pc + 3) ls ((v.map (pm_ren B b)).toList ++ st'.map (pm_ren B b))) := by
    intro H2 locs2 z1 z2 z3
    have z4 := k H2 locs2 z1 z2
    rw [z3, pm_toList_ren] at z4
    exact W.cs (by omega) (by omega) z4
  have hf : (h1.1.length - h0.1.length) + (h2.1.length - h1.1.length) ≤ R.cells ∧ (h1.2 - h0.2) + (h2.2 - h1.2) ≤ R.slots := ⟨by omega, by omega⟩
  have hfix : CallFix p mi c (pm_code m) L.length s args pm_words (pm_cn (pm_own m)) := ⟨hx, hb, hml, hown, hts⟩
  rcases hcases with ⟨rfl, hinv, rfl, hlen⟩ | ⟨a, bs, fs, rfl, rfl, hlen, ha, hcases⟩
  ·
    obtain ⟨f1, f2, f3, f4, f5, f6, f7, f8, -, -, f11⟩ := pm_f6 hinv
    have hM := pm_met ih hrun hn f7 f3 f11
    have hG : GoodIn pm_words (pm_ws m') := fun w hw => by
      rcases List.mem_cons.mp hw with rfl | hw
      · exact ⟨f1, Or.inl rfl⟩
      · exact hGI w hw
    have hR : (pm_rm d (h2.1.length - h1.1.length) (h2.2 - h1.2)).frames + 1 ≤ R.frames ∧ 8 + (pm_maxL m' + 11) + (pm_rm d (h2.1.length - h1.1.length) (h2.2 - h1.2)).locals ≤ R.locals := ⟨by show d + 1 + 1 ≤ _; omega, by show 8 + (pm_maxL m' + 11) + 36 * (d + 1) ≤ _; omega⟩
    have hst : ((as.reverse ++ st').map (pm_ren B b)) = (as.map (pm_ren B b)).reverse ++ st'.map (pm_ren B b) := by rw [List.map_append, List.map_reverse]
    rw [hst]
    rcases f5 with f5 | ⟨host, f5⟩
    · exact pm_back (va_runS (g := F0 mi pc ls ((as.map (pm_ren B b)).reverse ++ st'.map (pm_ren B b))) (As := as.map (pm_ren B b)) (rest := st'.map (pm_ren B b)) hfix hM ⟨callB_of np hts hG rfl rfl rfl (hts _ f2) (hts _ f5) f4 hR, hts _ (f8 rfl)⟩ ⟨pm_blind, hpre⟩ rfl (by rw [List.length_map]; exact hlen) hsz rfl (by show 2 * 0 + _ ≤ 8; omega) hd hf) hS fun H2 locs2 z1 z2 => fin H2 locs2 z1 z2 rfl
    · exact pm_back (va_runSN (g := F0 mi pc ls ((as.map (pm_ren B b)).reverse ++ st'.map (pm_ren B b))) (As := as.map (pm_ren B b)) (rest := st'.map (pm_ren B b)) hfix hM ⟨va_cnB np hts hG rfl rfl rfl (hns _ f5) (hts _ f2) f4 hR, hts _ (f8 rfl), trivial⟩ ⟨pm_blind, hpre⟩ rfl (by rw [List.length_map]; exact hlen) hsz rfl (by show 2 * 0 + _ ≤ 8; omega) hd hf) hS fun H2 locs2 z1 z2 => fin H2 locs2 z1 z2 rfl
  · have hst : ((bs.reverse ++ .ref a :: st').map (pm_ren B b)) = (bs.map (pm_ren B b)).reverse ++ .ref (B + a) :: st'.map (pm_ren B b) := by rw [List.map_append, List.map_reverse]; rfl
    rw [hst]
    rcases hcases with ⟨rfl, hinv⟩ | ⟨rfl, hinv⟩
    ·
      obtain ⟨f1, f2, f3, f4, f5, f6, f7, -, f9, -, f11⟩ := pm_f6 hinv
      obtain ⟨f9, f9', f9''⟩ := f9 rfl
      have hM := pm_met ih hrun hn f7 f3 f11
      have hG : GoodIn pm_words (pm_ws m') := fun w hw => by
        rcases List.mem_cons.mp hw with rfl | hw
        · exact ⟨f1, Or.inl rfl⟩
        · exact hGI w hw
      have hR : (pm_rm d (h2.1.length - h1.1.length) (h2.2 - h1.2)).frames + 1 ≤ R.frames ∧ 8 + (pm_maxL m' + 11) + (pm_rm d (h2.1.length - h1.1.length) (h2.2 - h1.2)).locals ≤ R.locals := ⟨by show d + 1 + 1 ≤ _; omega, by show 8 + (pm_maxL m' + 11) + 36 * (d + 1) ≤ _; omega⟩
      obtain ⟨q, hq, hqn⟩ := f9''
      have hrecv := va_recv hK hP hq (pm_emb_at (cI := cI) (cR := cR) (B := B) (b := b) ha)
      rw [hqn, ← f3] at hrecv
      have hpv : PreV s H (pm_y m').cls (B + a) (pm_Pc D cI cR B b xs (.ref a :: bs) h1) (bs.map (pm_ren B b)) := ⟨pm_blind, hrecv, hpre⟩
      rcases f5 with f5 | ⟨host, f5⟩
      · exact pm_back (va_runV (g := F0 mi pc ls ((bs.map (pm_ren B b)).reverse ++ .ref (B + a) :: st'.map (pm_ren B b))) (b := B + a) (As := bs.map (pm_ren B b)) (rest := st'.map (pm_ren B b)) hfix hM ⟨callB_of np hts hG rfl rfl rfl (hts _ f2) (hts _ f5) f4 hR, hts _ f9, hts _ f9'⟩ hpv rfl (by rw [List.length_map]; exact hlen) hsz rfl (by show 2 * 0 + _ ≤ 8; omega) hd hf) hS fun H2 locs2 z1 z2 => fin H2 locs2 z1 z2 rfl
      · exact pm_back (va_runVN (g := F0 mi pc ls ((bs.map (pm_ren B b)).reverse ++ .ref (B + a) :: st'.map (pm_ren B b))) (b := B + a) (As := bs.map (pm_ren B b)) (rest := st'.map (pm_ren B b)) hfix hM ⟨va_cnB np hts hG rfl rfl rfl (hns _ f5) (hts _ f2) f4 hR, hts _ f9, hts _ f9'⟩ hpv rfl (by rw [List.length_map]; exact hlen) hsz rfl (by show 2 * 0 + _ ≤ 8; omega) hd hf) hS fun H2 locs2 z1 z2 => fin H2 locs2 z1 z2 rfl
    ·
      obtain ⟨f1, f2, f3, f4, f5, f6, f7, -, -, f10, f11⟩ := pm_f6 hinv
      obtain ⟨f10, f10', f10''⟩ := f10 rfl
      have hM := pm_met ih hrun hn f7 f3 f11
      have hG : GoodIn pm_words (pm_ws m') := fun w hw => by
        rcases List.mem_cons.mp hw with rfl | hw
        · exact ⟨f1, Or.inl rfl⟩
        · exact hGI w hw
      have hR : (pm_rm d (h2.1.length - h1.1.length) (h2.2 - h1.2)).frames + 1 ≤ R.frames ∧ 8 + (pm_maxL m' + 11) + (pm_rm d (h2.1.length - h1.1.length) (h2.2 - h1.2)).locals ≤ R.locals := ⟨by show d + 1 + 1 ≤ _; omega, by show 8 + (pm_maxL m' + 11) + 36 * (d + 1) ≤ _; omega⟩
      have hws : pm_ws m' = .code (pm_y m') (pm_code m') (pm_maxL m') none :: pm_words := by rw [← f10']; rfl
      have hps : PreS s H (pm_Pc D cI cR B b xs (.ref a :: bs) h1) (.ref (B + a) :: bs.map (pm_ren B b)) := ⟨pm_blind, hpre⟩
      rcases f5 with f5 | ⟨host, f5⟩
      · exact pm_back (va_runI (g := F0 mi pc ls ((bs.map (pm_ren B b)).reverse ++ .ref (B + a) :: st'.map (pm_ren B b))) (b := B + a) (As := bs.map (pm_ren B b)) (rest := st'.map (pm_ren B b)) hfix hM ⟨callB_of np hts hG hws rfl rfl (hts _ f2) (hts _ f5) f4 hR, f10, hts _ f10''⟩ hps rfl (by rw [List.length_map]; exact hlen) hsz rfl (by show 2 * 0 + _ ≤ 8; omega) hd hf) hS fun H2 locs2 z1 z2 => fin H2 locs2 z1 z2 rfl
      · exact pm_back (va_runIN (g := F0 mi pc ls ((bs.map (pm_ren B b)).reverse ++ .ref (B + a) :: st'.map (pm_ren B b))) (b := B + a) (As := bs.map (pm_ren B b)) (rest := st'.map (pm_ren B b)) hfix hM ⟨va_cnB np hts hG hws rfl rfl (hns _ f5) (hts _ f2) f4 hR, f10, hts _ f10''⟩ hps rfl (by rw [List.length_map]; exact hlen) hsz rfl (by show 2 * 0 + _ ≤ 8; omega) hd hf) hS fun H2 locs2 z1 z2 => fin H2 locs2 z1 z2 rfl
theorem pm_tl_len {i : Instr} {L L' st st' : List Value} (e : pm_tl i L st = some (L', st')) : L'.length = L.length := by
  unfold pm_tl at e
  split at e
  · obtain ⟨x, -, q⟩ := pm_sti_ok e; obtain ⟨-, -, rfl⟩ := pm_st1_ok q; simp
  · obtain ⟨x, -, q⟩ := pm_sti_ok e; obtain ⟨-, -, rfl⟩ := pm_st1_ok q; simp
  · obtain ⟨x, -, q⟩ := pm_stl_ok e; obtain ⟨-, -, rfl⟩ := pm_st2_ok q; simp
  · obtain ⟨x, -, q⟩ := pm_stl_ok e; obtain ⟨-, -, rfl⟩ := pm_st2_ok q; simp
  · obtain ⟨x, -, q, -⟩ := pm_sta_ok (B := 0) (b := 0) e; obtain ⟨-, -, rfl⟩ := pm_st1_ok q; simp
  · obtain ⟨x, -, q, -⟩ := pm_sta_ok (B := 0) (b := 0) e; obtain ⟨-, -, rfl⟩ := pm_st1_ok q; simp
  · split at e
    · split at e
      · rename_i q
        cases e
        obtain ⟨-, -, rfl⟩ := pm_st1_ok q
        simp
      · cases e
    · cases e
  · cases e
set_option maxHeartbeats 4000000 in
theorem pm_in : ∀ n, pm_In l B b D cI cR xs n := by
  intro n
  induction n with
  | zero => intro d m pc L st h1 h' v e; simp [pm_run] at e
  | succ n ih =>
    intro d m pc L st h1 h' v ev p e R s mi args below meth c H locs Q ls h0 hC hml hfr hlo hz0 hle hc1 hs1 hL hP hS hend
    have hC' := hC
    obtain ⟨hx, hb, hown, hin, hts, hns, hK, hX, hbB, hBs⟩ := hC'
    have hgr := pm_run_gr ev
    unfold pm_run at ev
    split at ev
    · cases ev
    · rename_i i nx tg hi
      obtain ⟨t1, t2, t3⟩ := pm_t1 hi
      subst t1
      split at ev
      · rename_i w ha
        cases ev
        exact hend i pc st ls H locs t2 ha hP hS
      · split at ev
        · rename_i cb st' hbr
          refine pm_br_ok (B := B) (b := b) hx hb t2 hbr t3 (fun z => ?_) (fun z => ?_)
          · subst z
            rw [if_pos rfl] at ev
            exact ih d m tg L st' h1 h' v ev p e R s mi args below meth c H locs Q ls h0 hC hml hfr hlo hz0 hle hc1 hs1 hL hP hS hend
          · subst z
            rw [if_neg (by simp)] at ev
            exact ih d m _ L st' h1 h' v ev p e R s mi args below meth c H locs Q ls h0 hC hml hfr hlo hz0 hle hc1 hs1 hL hP hS hend
        · split at ev
          · rename_i m' as st' hcall
            split at ev
            · cases ev
            · rename_i d'
              split at ev
              · cases ev
              · rename_i w h2 hrun
                have g2 := pm_run_gr ev
                refine pm_call_go (d := d') ih hC hml (by omega) (by omega) hz0 hle (Nat.le_trans g2.1 hc1) (Nat.le_trans g2.2 hs1) hL hP hS t2 hcall hrun fun H2 locs2 z1 z2 => ?_
                exact ih (d' + 1) m _ L (w.toList ++ st') h2 h' v ev p e R s mi args below meth c H2 locs2 Q ls h0 hC hml hfr hlo hz0 (hle.tr (pm_run_gr hrun)) hc1 hs1 hL z1 z2 hend
          · split at ev
            · cases ev
            · rename_i pc' L' st' h2 hstep
              have g2 := pm_run_gr ev
              unfold pm_step at hstep
              split at hstep
              · rename_i st1 hts1
                cases hstep
                exact pm_ts_ok hx hb t2 hL hts1 (ih d m _ _ _ _ h' v ev p e R s mi args below meth c H locs Q ls h0 hC hml hfr hlo hz0 hle hc1 hs1 hL hP hS hend)
              · split at hstep
                · rename_i L1 st1 htl1
                  cases hstep
                  refine pm_tl_ok hx hb t2 hL htl1 fun ls' hL' => ?_
                  exact ih d m _ _ _ _ h' v ev p e R s mi args below meth c H locs Q ls' h0 hC (hml.trans (pm_tl_len htl1).symm) hfr hlo hz0 hle hc1 hs1 hL' hP hS hend
                · split at hstep
                  · rename_i st1 h3 hhp
                    cases hstep
                    refine pm_hp_ok hC (hml.trans hL.1.symm) t2 (by omega) (by omega) hz0 hle (Nat.le_trans g2.1 hc1) (Nat.le_trans g2.2 hs1) hP hS hhp fun H1 locs1 z1 z2 => ?_
                    exact ih d m _ _ _ _ h' v ev p e R s mi args below meth c H1 locs1 Q ls h0 hC hml hfr hlo hz0 (hle.tr (pm_hp_gr hhp)) hc1 hs1 hL z1 z2 hend
                  · split at hstep
                    · rename_i off st1 hsw
                      split at hstep
                      · rename_i t ht
                        cases hstep
                        exact pm_sw_ok hx hb t2 hsw ht (ih d m _ _ _ _ h' v ev p e R s mi args below meth c H locs Q ls h0 hC hml hfr hlo hz0 hle hc1 hs1 hL hP hS hend)
                      · cases hstep
                    · cases hstep
end RUN
