def fr_up {α : Type} (g : Nat → α) (i : Nat) (v : α) : Nat → α := fun j => if j = i then v else g j
theorem fr_up_s {α : Type} {g : Nat → α} {i : Nat} {v : α} : fr_up g i v i = v := if_pos rfl
theorem fr_up_n {α : Type} {g : Nat → α} {i j : Nat} {v : α} (h : j ≠ i) : fr_up g i v j = g j := if_neg h
def dp_t (b : Nat) (f : Bool) : Nat := if f = true then b + 158 else b + 131
theorem dp_t_c (b : Nat) (f : Bool) : (dp_t b f = b + 131 ∧ dp_t b (!f) = b + 158) ∨ (dp_t b f = b + 158 ∧ dp_t b (!f) = b + 131) := by
  cases f
  · exact Or.inl ⟨rfl, rfl⟩
  · exact Or.inr ⟨rfl, rfl⟩
abbrev dp_K : Type := List (Int32 × List Int32)
abbrev dp_P : Type := List (Nat × Int32)
def dp_R (h : pm_H) (b : Nat) (z : cz_N) (im : Nat → dp_P) (st ca : dp_K) (sd : Nat → List Int32 × dp_P) (ws ta : List Nat) (f : Bool) (S : tr_S) : Prop :=
  h.1[b]? = some (.inr (.inr (kD, [.ref (b + 1), .ref (b + 2), .ref (b + 15), .ref (b + 98), .ref (b + 113), .ref (b + 126), .ref (b + 128), .ref (b + 130), .ref (dp_t b f), .ref (dp_t b (!f))]))) ∧
  cz_R h (b + 1) z ∧ h.1[b + 2]? = some (.inr (.inl (kP, [some (b + 3), some (b + 6), some (b + 9), some (b + 12)]))) ∧ (∀ i, i < 4 → pl_R h (b + 3 + 3 * i) (im i)) ∧ kp_R h (b + 15) 40 st ∧ kp_R h (b + 98) 6 ca ∧
  h.1[b + 113]? = some (.inr (.inl (kS, [some (b + 114), some (b + 120)]))) ∧ (∀ s, s < 2 → sd_R h (b + 114 + 6 * s) (sd s).1 (sd s).2) ∧ (∃ os, bt_R h (b + 126) 117 os) ∧ bt_R h (b + 128) 120 (ws.map nI) ∧
  h.1[b + 130]? = some (.inl (false, ta.map nI)) ∧ ta.length = 4 ∧ tr_R h (dp_t b f) S ∧ ∃ S', tr_R h (dp_t b (!f)) S' ∧ tr_rt S'
section DEPOT0
variable {h h' : pm_H} {b : Nat} {z : cz_N} {im : Nat → dp_P} {st ca : dp_K} {sd : Nat → List Int32 × dp_P} {ws ta : List Nat} {f : Bool} {S : tr_S}
theorem dp_R.uout (hb : dp_R h b z im st ca sd ws ta f S) {lo hi : Nat} (e : fr_ag lo hi h h') (hd : hi ≤ b ∨ b + 185 ≤ lo) : dp_R h' b z im st ca sd ws ta f S := by
  have ht := dp_t_c b f
  obtain ⟨c1, c2, c3, c4, c5, c6, c7, c8, c9, c10, c11, c12, c13, c14⟩ := hb
  refine ⟨e.at (by omega) c1, e.at (by omega) c2, e.at (by omega) c3, fun i hi => (c4 i hi).ag e (by omega), c5.ag e (by omega), c6.ag e (by omega), e.at (by omega) c7, fun s hs => (c8 s hs).ag e (by omega), c9.imp fun _ q => q.ag e (by omega), c10.ag e (by omega), e.at (by omega) c11, c12, c13.ag e (by omega), c14.imp fun _ q => ⟨q.1.ag e (by omega), q.2⟩⟩
theorem dp_R.uim (hb : dp_R h b z im st ca sd ws ta f S) {i : Nat} {ps : dp_P} (hi : i < 4) (n : pl_R h' (b + 3 + 3 * i) ps) (e : fr_ag (b + 3 + 3 * i) (b + 3 + 3 * i + 3) h h') : dp_R h' b z (fr_up im i ps) st ca sd ws ta f S := by
  have ht := dp_t_c b f
  obtain ⟨c1, c2, c3, c4, c5, c6, c7, c8, c9, c10, c11, c12, c13, c14⟩ := hb
  refine ⟨e.at (by omega) c1, e.at (by omega) c2, e.at (by omega) c3, fun j hj => ?_, c5.ag e (by omega), c6.ag e (by omega), e.at (by omega) c7, fun s hs => (c8 s hs).ag e (by omega), c9.imp fun _ q => q.ag e (by omega), c10.ag e (by omega), e.at (by omega) c11, c12, c13.ag e (by omega), c14.imp fun _ q => ⟨q.1.ag e (by omega), q.2⟩⟩
  by_cases q : j = i
  · subst q
    rw [fr_up_s]
    exact n
  · rw [fr_up_n q]
    exact (c4 j hj).ag e (by omega)
theorem dp_R.ust (hb : dp_R h b z im st ca sd ws ta f S) {L : dp_K} (n : kp_R h' (b + 15) 40 L) (e : fr_ag (b + 15) (b + 98) h h') : dp_R h' b z im L ca sd ws ta f S := by
  have ht := dp_t_c b f
  obtain ⟨c1, c2, c3, c4, c5, c6, c7, c8, c9, c10, c11, c12, c13, c14⟩ := hb
  refine ⟨e.at (by omega) c1, e.at (by omega) c2, e.at (by omega) c3, fun i hi => (c4 i hi).ag e (by omega), n, c6.ag e (by omega), e.at (by omega) c7, fun s hs => (c8 s hs).ag e (by omega), c9.imp fun _ q => q.ag e (by omega), c10.ag e (by omega), e.at (by omega) c11, c12, c13.ag e (by omega), c14.imp fun _ q => ⟨q.1.ag e (by omega), q.2⟩⟩
theorem dp_R.uca (hb : dp_R h b z im st ca sd ws ta f S) {L : dp_K} (n : kp_R h' (b + 98) 6 L) (e : fr_ag (b + 98) (b + 113) h h') : dp_R h' b z im st L sd ws ta f S := by
  have ht := dp_t_c b f
  obtain ⟨c1, c2, c3, c4, c5, c6, c7, c8, c9, c10, c11, c12, c13, c14⟩ := hb
  refine ⟨e.at (by omega) c1, e.at (by omega) c2, e.at (by omega) c3, fun i hi => (c4 i hi).ag e (by omega), c5.ag e (by omega), n, e.at (by omega) c7, fun s hs => (c8 s hs).ag e (by omega), c9.imp fun _ q => q.ag e (by omega), c10.ag e (by omega), e.at (by omega) c11, c12, c13.ag e (by omega), c14.imp fun _ q => ⟨q.1.ag e (by omega), q.2⟩⟩
theorem dp_R.usd (hb : dp_R h b z im st ca sd ws ta f S) {s : Nat} {bs : List Int32} {ps : dp_P} (hs : s < 2) (n : sd_R h' (b + 114 + 6 * s) bs ps) (e : fr_ag (b + 114 + 6 * s) (b + 114 + 6 * s + 6) h h') : dp_R h' b z im st ca (fr_up sd s (bs, ps)) ws ta f S := by
  have ht := dp_t_c b f
  obtain ⟨c1, c2, c3, c4, c5, c6, c7, c8, c9, c10, c11, c12, c13, c14⟩ := hb
  refine ⟨e.at (by omega) c1, e.at (by omega) c2, e.at (by omega) c3, fun i hi => (c4 i hi).ag e (by omega), c5.ag e (by omega), c6.ag e (by omega), e.at (by omega) c7, fun j hj => ?_, c9.imp fun _ q => q.ag e (by omega), c10.ag e (by omega), e.at (by omega) c11, c12, c13.ag e (by omega), c14.imp fun _ q => ⟨q.1.ag e (by omega), q.2⟩⟩
  by_cases q : j = s
  · subst q
    rw [fr_up_s]
    exact n
  · rw [fr_up_n q]
    exact (c8 j hj).ag e (by omega)
theorem dp_R.uos (hb : dp_R h b z im st ca sd ws ta f S) {os : List Int32} (n : bt_R h' (b + 126) 117 os) (e : fr_ag (b + 126) (b + 128) h h') : dp_R h' b z im st ca sd ws ta f S := by
  have ht := dp_t_c b f
  obtain ⟨c1, c2, c3, c4, c5, c6, c7, c8, c9, c10, c11, c12, c13, c14⟩ := hb
  refine ⟨e.at (by omega) c1, e.at (by omega) c2, e.at (by omega) c3, fun i hi => (c4 i hi).ag e (by omega), c5.ag e (by omega), c6.ag e (by omega), e.at (by omega) c7, fun s hs => (c8 s hs).ag e (by omega), ⟨os, n⟩, c10.ag e (by omega), e.at (by omega) c11, c12, c13.ag e (by omega), c14.imp fun _ q => ⟨q.1.ag e (by omega), q.2⟩⟩
theorem dp_R.uws (hb : dp_R h b z im st ca sd ws ta f S) {vs : List Nat} (n : bt_R h' (b + 128) 120 (vs.map nI)) (e : fr_ag (b + 128) (b + 130) h h') : dp_R h' b z im st ca sd vs ta f S := by
  have ht := dp_t_c b f
  obtain ⟨c1, c2, c3, c4, c5, c6, c7, c8, c9, c10, c11, c12, c13, c14⟩ := hb
  refine ⟨e.at (by omega) c1, e.at (by omega) c2, e.at (by omega) c3, fun i hi => (c4 i hi).ag e (by omega), c5.ag e (by omega), c6.ag e (by omega), e.at (by omega) c7, fun s hs => (c8 s hs).ag e (by omega), c9.imp fun _ q => q.ag e (by omega), n, e.at (by omega) c11, c12, c13.ag e (by omega), c14.imp fun _ q => ⟨q.1.ag e (by omega), q.2⟩⟩
theorem dp_R.uta (hb : dp_R h b z im st ca sd ws ta f S) {tb : List Nat} (n : h'.1[b + 130]? = some (.inl (false, tb.map nI))) (hl : tb.length = 4) (e : fr_ag (b + 130) (b + 131) h h') : dp_R h' b z im st ca sd ws tb f S := by
  have ht := dp_t_c b f
  obtain ⟨c1, c2, c3, c4, c5, c6, c7, c8, c9, c10, c11, c12, c13, c14⟩ := hb
  refine ⟨e.at (by omega) c1, e.at (by omega) c2, e.at (by omega) c3, fun i hi => (c4 i hi).ag e (by omega), c5.ag e (by omega), c6.ag e (by omega), e.at (by omega) c7, fun s hs => (c8 s hs).ag e (by omega), c9.imp fun _ q => q.ag e (by omega), c10.ag e (by omega), n, hl, c13.ag e (by omega), c14.imp fun _ q => ⟨q.1.ag e (by omega), q.2⟩⟩
theorem dp_R.utr (hb : dp_R h b z im st ca sd ws ta f S) {S' : tr_S} (n : tr_R h' (dp_t b f) S') (e : fr_ag (dp_t b f) (dp_t b f + 27) h h') : dp_R h' b z im st ca sd ws ta f S' := by
  have ht := dp_t_c b f
  obtain ⟨c1, c2, c3, c4, c5, c6, c7, c8, c9, c10, c11, c12, c13, c14⟩ := hb
  refine ⟨e.at (by omega) c1, e.at (by omega) c2, e.at (by omega) c3, fun i hi => (c4 i hi).ag e (by omega), c5.ag e (by omega), c6.ag e (by omega), e.at (by omega) c7, fun s hs => (c8 s hs).ag e (by omega), c9.imp fun _ q => q.ag e (by omega), c10.ag e (by omega), e.at (by omega) c11, c12, n, c14.imp fun _ q => ⟨q.1.ag e (by omega), q.2⟩⟩
end DEPOT0
