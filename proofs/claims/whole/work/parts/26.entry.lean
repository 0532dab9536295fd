theorem pm_arr {s : State} {args : Array Value} {ty : FieldType} (h : (Cond.arrayClass ty).before args s = true) (hp : ∀ C, ty ≠ .object C) : ∃ c : ClassId, ArrOfT s c ty ∧ va_RA s c ty := by
  obtain ⟨c, k, comp, h1, h2, h3⟩ := Cond.arrayClass_spec h
  refine ⟨c, fun N z => ⟨(fun k h => by cases h), k, h2, comp, h3⟩, ?_⟩
  cases ty <;> first | exact h1 | exact absurd rfl (hp _)
theorem pm_arrO {s : State} {C : String} (h : va_AO C s) : ∃ c : ClassId, ArrOfT s c (.object C) ∧ va_RA s c (.object C) := by
  obtain ⟨comp, c, k, h1, -, h3, h4, h5⟩ := Cond.arrayOver_spec h
  exact ⟨c, fun N z => ⟨(fun k h => by cases h), k, h3, comp, h4⟩, k, comp, h3, h4, h1, h5⟩
theorem pm_nest_of {s : State} {args : Array Value} (hts : ∀ w ∈ lw_tbl, w.before args s = true) : ∀ w ∈ pm_nest, va_Nw w s := fun w hw => by
  have h1 := pm_f8 w hw
  have h2 := hts w (List.mem_filter.mp hw).1
  cases w with
  | fieldLinkNest a i b n d q => exact va_Nw.of rfl h2
  | methodLinkNest a i x q => exact va_Nw.of rfl h2
  | castable C T => exact va_Nw.of rfl h2
  | arrayOver ty => cases ty with
    | object C => exact h2
    | _ => simp [pm_isN] at h1
  | _ => simp [pm_isN] at h1
theorem pm_ins9 : ∀ c, c < 9 → pk_at (pt_ins c) (.instantiable (pm_cn c) (pm_N c)) = true := by decide +kernel
theorem pm_ao_nest : ∀ t ∈ pm_ra, pm_isN (.arrayOver (.object (pm_cn t))) = true ∧ Cond.arrayOver (.object (pm_cn t)) ∈ lw_tbl := by
  intro t ht
  obtain ⟨o, idx, h⟩ : ∃ o idx, pm_anew o idx = some t := pm_ra_anew t ht
  exact ⟨rfl, (List.mem_filter.mp (pm_f4 h).2.2).1⟩
theorem pm_known {s : State} {args : Array Value} (hts : ∀ w ∈ lw_tbl, w.before args s = true) : ∃ (D : va_G) (cI : Bool → ClassId) (cR : Nat → ClassId), va_K D vwCl (pm_tys cI cR) s := by
  have htw : ∀ w ∈ pm_words, w.before args s = true := fun w hw => hts w (List.mem_filter.mp hw).1
  have hn := pm_nest_of hts
  have h1 : ∀ c : Nat, ∃ q : ClassId × (Nat → Nat), c < 9 → u_Kn s (pm_cn c) (pm_T c) (pm_N c) q.1 q.2 := by
    intro c
    by_cases hc : c < 9
    · obtain ⟨cC, iS, h⟩ := u_known htw (pm_f2 (pm_cl hc)).1 (htw _ (pk_at_mem (pm_ins9 c hc)))
      exact ⟨(cC, iS), fun _ => h⟩
    · exact ⟨(0, fun _ => 0), fun h => absurd h hc⟩
  have h2 : ∀ t : Nat, ∃ q : ClassId, t ∈ pm_ra → ArrOfT s q (.object (pm_cn t)) ∧ va_RA s q (.object (pm_cn t)) := by
    intro t
    by_cases ht : t ∈ pm_ra
    · obtain ⟨q, h⟩ := pm_arrO (hn _ (List.mem_filter.mpr ⟨(pm_ao_nest t ht).2, (pm_ao_nest t ht).1⟩))
      exact ⟨q, fun _ => h⟩
    · exact ⟨0, fun h => absurd h ht⟩
  obtain ⟨D, hD⟩ := Classical.axiomOfChoice h1
  obtain ⟨cR, hR⟩ := Classical.axiomOfChoice h2
  obtain ⟨ci, hci⟩ := pm_arr (htw _ pm_f7) (fun C h => by cases h)
  obtain ⟨cz, hcz⟩ := pm_arr (htw _ pm_f7b) (fun C h => by cases h)
  refine ⟨(fun c => (D c).1, fun c => (D c).2), fun z => if z = true then cz else ci, cR, fun c q hq => ?_, fun k q hk => ?_⟩
  · have hc : c < 9 := (List.getElem?_eq_some_iff.mp hq).1
    rw [pm_cl hc] at hq
    cases hq
    exact hD c hc
  · match k with
    | 0 => cases hk; exact hci
    | 1 => cases hk; exact hcz
    | k + 2 =>
      have hk : (pm_ra.map (fun t => (cR t, FieldType.object (pm_cn t))))[k]? = some q := hk
      rw [List.getElem?_map] at hk
      obtain ⟨t, ht, rfl⟩ := Option.map_eq_some_iff.mp hk
      exact hR t (List.mem_of_getElem? ht)
set_option maxHeartbeats 4000000 in
theorem pm_law_start {p : Program} {e : Env} {s : State} {m : MethodId} {below : List Frame} {meth : Method} {c : Code} (l : Launch) {b L : Nat} {xs : Nat → Int32} (C0 : lw_At p s m meth c b L xs)
    (hrun : pm_X ((List.range L).map xs) 8 pt_law [.retAddr 1] ([], 0) (fun v h' => v = some (.int 1) ∧ h'.1.length ≤ room_1.cells ∧ h'.2 ≤ room_1.slots)) :
    W p l e room_1 s m #[Value.ref b] below meth c s.heap [] 0 0 (lw_Z below #[Value.ref b] s) (entryFrame m ([Value.ref b] : List Value).toArray (pm_maxL pt_law)) := by
  obtain ⟨hx, hb, hr, hml, hown, hts, hX, hbl, hlocks, -⟩ := C0
  obtain ⟨n, v, h', hrun, rfl, hc, hs⟩ := hrun
  obtain ⟨D, cI, cR, hK⟩ := pm_known hts
  have hlen : ((List.range L).map xs).length = L := by simp
  have hX' : va_X b ((List.range L).map xs).length (fun j => ((List.range L).map xs).getD j 0) s s.heap := by
    obtain ⟨scr, x1, x2, x3, x4, x5⟩ := hX
    refine ⟨scr, x1, x2, x3, by rw [hlen]; exact x4, fun j hj => ?_⟩
    rw [hlen] at hj
    rw [x5 j hj]
    simp [hj]
  have hg := pm_run_gr hrun
  rw [lg_entry_eq]
  have k := pm_in (l := l) (B := s.heap.size) (b := b) (D := D) (cI := cI) (cR := cR) n 8 pt_law 0 (pm_entry [.retAddr 1] (pm_maxL pt_law)) [] ([], 0) h' (some (.int 1)) hrun p e room_1 s m #[Value.ref b] below meth c s.heap [] (lw_Z below #[Value.ref b] s)
    ((lg_sl (([.retAddr 1] : List Value).map (pm_ren s.heap.size b)) ++ List.replicate (pm_maxL pt_law - (lg_sl (([.retAddr 1] : List Value).map (pm_ren s.heap.size b))).length) Slot.unset).toArray) ([], 0)
    ⟨hx, hb, hown, (fun z => by cases z), fun w hw => hts w (List.mem_filter.mp hw).1, pm_nest_of hts, hK, hX', hbl, Nat.le_refl _⟩ hml (by decide) (by decide) rfl pm_gr.rf (by simpa using hc) (by simpa using hs)
    (pm_L_entry (by decide)) (fun k q h => by simp [pm_emb] at h) va_S.rf (fun i pc' st' ls' H' locs' hd ha hP' hS' => ?_)
  · exact k
  · refine va_forget (fun q hq => hS'.2.2 q hq) (W.widen (k := room_1.cells) (n := room_1.slots) (by simpa using hc) (by simpa using hs) ?_)
    unfold pm_ans at ha
    split at ha
    · split at ha
      · split at ha
        · cases ha
          exact lw_ret hx hb hr hlocks hd
        · cases ha
      · cases ha
    · split at ha
      · split at ha <;> cases ha
      · cases ha
    · split at ha
      · split at ha <;> cases ha
      · split at ha <;> cases ha
      · cases ha
    · split at ha
      · split at ha <;> cases ha
      · cases ha
    · cases ha
