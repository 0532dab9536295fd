def fr_al (b n : Nat) (h h' : pm_H) : Prop := h'.1.length = h.1.length + 1 ∧ h'.2 = h.2 + n ∧ ∀ k, k < h.1.length → (k < b ∨ b + 185 ≤ k) → h'.1[k]? = h.1[k]?
section UNPACK
variable {xs : List Int32} {h : pm_H} {b : Nat} {z : cz_N} {im : Nat → dp_P} {st ca : dp_K} {sd : Nat → List Int32 × dp_P} {ws ta : List Nat} {f : Bool} {S : tr_S} {Q : Option Value → pm_H → Prop}
theorem ct_R_init {r o t : Nat} (hr : h.1[r]? = some (.inr (.inr (kR, [.null, .null, .int 0, .int 0])))) (k : ∀ h' : pm_H, rd_R h' r o t 0 false → fr_ag r (r + 1) h h' → Q none h') : pm_X xs 0 mR_init [.ref r, .ref o, .ref t] h Q := by
  unfold pm_X
  (repeat (first | refine pm_W.ts rfl rfl ?_ | refine pm_W.tl rfl rfl ?_))
  refine pm_W.obj rfl rfl rfl rfl ?_
  (repeat (first | refine pm_W.ts rfl rfl ?_ | refine pm_W.tl rfl rfl ?_))
  refine pm_W.put (v := .ref o) rfl rfl hr (fr_ble rfl) rfl (Or.inr ⟨rfl, rfl⟩) ?_
  have hr2 := fr_set (c := .inr (.inr (kR, [Value.ref o, .null, .int 0, .int 0]))) hr
  (repeat (first | refine pm_W.ts rfl rfl ?_ | refine pm_W.tl rfl rfl ?_))
  refine pm_W.put (v := .ref t) rfl rfl hr2 (fr_ble rfl) rfl (Or.inr ⟨rfl, rfl⟩) ?_
  exact pm_W.ret rfl rfl (k _ (fr_set hr2) ((fr_agset (by omega) (by omega)).tr (fr_agset (by omega) (by omega))))
theorem ct_D_unpack {I : Nat → tr_S → Option Nat → Prop} (hb : dp_R h b z im st ca sd ws ta f S) (hS : tr_rt S) (hw : rd_by ws)
    (i0 : ∀ S', tr_ok S' → tr_rt S' → I 0 (tr_clr S' 10) (some 0)) (i1 : ∀ p S d p' S' o', I p S (some d) → rd_N ws S d p p' S' o' → p ≤ ws.length → I p' S' o') (i2 : ∀ p S o, I p S o → tr_fb S ≤ 80 ∧ ∀ e, o = some e → e ≤ 10) (i3 : ∀ p S o, I p S o → tr_rt S)
    (kF : ∀ (p q d : Nat) (S1 : tr_S) (h' : pm_H), I p S1 (some d) → rd_F ws S1 d p q → p ≤ ws.length → dp_R h' b z im st ca sd ws ta f S → fr_al b 4 h h' → Q (some (.int (-1 - nI q))) h')
    (kT : ∀ (p : Nat) (S1 : tr_S) (h' : pm_H), I p S1 none → p < ws.length → dp_R h' b z im st ca sd ws ta f S → fr_al b 4 h h' → Q (some (.int (-1 - nI p))) h')
    (kO : ∀ (S1 : tr_S) (h' : pm_H), I ws.length S1 none → dp_R h' b z im st ca sd ws ta (!f) S1 → fr_al b 4 h h' → Q (some (.int (nI (tr_cnt (tr_u S1) 10)))) h') :
    pm_X xs 6 mD_unpack [.ref b] h Q := by
  have hlen := dp_len hb
  have ht := dp_t_c b f
  have hwl : ws.length ≤ 120 := by
    obtain ⟨ys, -, -, -, -, g, -⟩ := id hb.2.2.2.2.2.2.2.2.2.1
    rw [List.length_map] at g
    exact g
  have rest : ∀ (g g2 : pm_H) (Sp : tr_S), g.1.length = h.1.length + 1 → g.2 = h.2 + 4 → (∀ k, k < h.1.length → g.1[k]? = h.1[k]?) → rd_fr h.1.length (dp_t b (!f)) g g2 → tr_R g2 (dp_t b (!f)) Sp → tr_rt Sp → dp_R g2 b z im st ca sd ws ta f S ∧ fr_al b 4 h g2 := by
    intro g g2 Sp e1 e2 e3 hfr hT hrt
    obtain ⟨f1, f2, f3⟩ := hfr
    have keep : ∀ k, k < h.1.length → (k < dp_t b (!f) ∨ dp_t b (!f) + 27 ≤ k) → g2.1[k]? = h.1[k]? := fun k hk hq => (f3 k (by omega) hq).trans (e3 k hk)
    obtain ⟨c1, c2, c3, c4, c5, c6, c7, c8, c9, c10, c11, c12, c13, c14⟩ := id hb
    refine ⟨⟨(keep _ (by omega) (by omega)).trans c1, (keep _ (by omega) (by omega)).trans c2, (keep _ (by omega) (by omega)).trans c3, fun i hi => (c4 i hi).keep fun k _ _ => keep k (by omega) (by omega), c5.keep fun k _ _ => keep k (by omega) (by omega), c6.keep fun k _ _ => keep k (by omega) (by omega), (keep _ (by omega) (by omega)).trans c7, fun s hs => ⟨(keep _ (by omega) (by omega)).trans (c8 s hs).1, (c8 s hs).2.1.keep fun k _ _ => keep k (by omega) (by omega), (c8 s hs).2.2.keep fun k _ _ => keep k (by omega) (by omega)⟩, c9.imp fun _ q => q.keep fun k _ _ => keep k (by omega) (by omega), c10.keep fun k _ _ => keep k (by omega) (by omega), (keep _ (by omega) (by omega)).trans c11, c12, c13.keep fun k _ _ => keep k (by omega) (by omega), ⟨Sp, hT, hrt⟩⟩, ?_⟩
    exact ⟨f2.trans e1, f1.trans e2, fun k hk hq => keep k hk (by omega)⟩
  obtain ⟨c1, c2, c3, c4, c5, c6, c7, c8, c9, c10, c11, c12, c13, S', c14, c15⟩ := id hb
  have put : ∀ k, k < h.1.length → (h.1 ++ [(.inr (.inr (kR, [Value.null, .null, .int 0, .int 0])) : pm_C)])[k]? = h.1[k]? := fun k hk => List.getElem?_append_left hk
  have hb1 : dp_R (h.1 ++ [.inr (.inr (kR, [Value.null, .null, .int 0, .int 0]))], h.2 + 4) b z im st ca sd ws ta f S := hb.ukeep (fun k _ _ => put k (by omega))
  have hnew : (h.1 ++ [(.inr (.inr (kR, [Value.null, .null, .int 0, .int 0])) : pm_C)])[h.1.length]? = some (.inr (.inr (kR, [.null, .null, .int 0, .int 0]))) := by simp
  unfold pm_X
  refine pm_W.new rfl rfl ?_
  have d1 := hb1.1
  (repeat (first | refine pm_W.ts rfl rfl ?_ | refine pm_W.tl rfl rfl ?_ | refine pm_W.get rfl rfl d1 rfl ?_))
  refine pm_W.callI (d' := 0) rfl rfl rfl rfl (fr_ble rfl) hnew (fr_ble rfl) (ct_R_init hnew (fun g hr hag => ?_))
  have hlg : g.1.length = h.1.length + 1 := by
    rw [hag.2.1]
    show (h.1 ++ [_]).length = _
    rw [List.length_append, List.length_singleton]
  have hg2 : g.2 = h.2 + 4 := hag.1
  have hgk : ∀ k, k < h.1.length → g.1[k]? = h.1[k]? := fun k hk => (hag.2.2 k (by omega)).trans (put k hk)
  have hgb : dp_R g b z im st ca sd ws ta f S := hb.ukeep (fun k _ _ => hgk k (by omega))
  have hr' : g.1[h.1.length]? = some (.inr (.inr (kR, [Value.ref (b + 128), .ref (dp_t b (!f)), .int (nI 0), .int (fr_b false)]))) := hr
  have hT' : tr_R g (dp_t b (!f)) S' := c14.keep fun k _ _ => hgk k (by omega)
  refine pm_W.callV rfl rfl rfl rfl (fr_ble rfl) hr' (fr_ble rfl) (ct_R_readAll (I := I) hr (hgb.2.2.2.2.2.2.2.2.2.1) hw hT' (by omega) (by omega) (by omega) (i0 S' c14.2.2.2.2.2.2 c15) i1 i2 (fun p q d S1 S2 g2 hI hF hrt hp hr2 hT2 hfr => ?_) (fun p S1 g2 hI hp hr2 hT2 hfr => ?_) (fun S1 g2 hI hr2 hT2 hfr => ?_))
  · obtain ⟨q1, q2⟩ := rest g g2 S2 hlg hg2 hgk hfr hT2 (hrt (i3 _ _ _ hI))
    have hq : q ≤ ws.length + 2 := by
      rcases hF with ⟨e, -⟩ | ⟨e, -⟩ | ⟨e, -⟩ | ⟨e, -⟩ | ⟨e, -⟩ <;> omega
    have hneg : -1 - nI q < 0 := by
      rw [fr_lt, Int32.toInt_sub, nI_toInt (by omega)]
      show ((-1 - (q : Int))).bmod (2 ^ 32) < 0
      rw [Int.bmod_eq_of_le (by omega) (by omega)]
      omega
    (repeat (first | refine pm_W.ts rfl rfl ?_ | refine pm_W.tl rfl rfl ?_))
    refine pm_W.ifz rfl (fun c => ?_) (fun c => absurd hneg c)
    (repeat (first | refine pm_W.ts rfl rfl ?_ | refine pm_W.tl rfl rfl ?_))
    exact pm_W.iret rfl rfl (kF p q d S1 g2 hI hF hp q1 q2)
  · obtain ⟨q1, q2⟩ := rest g g2 S1 hlg hg2 hgk hfr hT2 (i3 _ _ _ hI)
    have hneg : -1 - nI p < 0 := by
      rw [fr_lt, Int32.toInt_sub, nI_toInt (by omega)]
      show ((-1 - (p : Int))).bmod (2 ^ 32) < 0
      rw [Int.bmod_eq_of_le (by omega) (by omega)]
      omega
    (repeat (first | refine pm_W.ts rfl rfl ?_ | refine pm_W.tl rfl rfl ?_))
    refine pm_W.ifz rfl (fun c => ?_) (fun c => absurd hneg c)
    (repeat (first | refine pm_W.ts rfl rfl ?_ | refine pm_W.tl rfl rfl ?_))
    exact pm_W.iret rfl rfl (kT p S1 g2 hI hp q1 q2)
  · obtain ⟨q1, q2⟩ := rest g g2 S1 hlg hg2 hgk hfr hT2 (i3 _ _ _ hI)
    have hcnt := tr_cnt_le (f := tr_u S1) 10
    obtain ⟨e1, e2, e3, e4, e5, e6, e7, e8, e9, e10, e11, e12, e13, e14⟩ := id q1
    (repeat (first | refine pm_W.ts rfl rfl ?_ | refine pm_W.tl rfl rfl ?_))
    refine pm_W.ifz rfl (fun c => absurd c (nI_pos (by omega))) (fun c => ?_)
    (repeat (first | refine pm_W.ts rfl rfl ?_ | refine pm_W.tl rfl rfl ?_ | refine pm_W.get rfl rfl e1 rfl ?_))
    refine pm_W.put (v := .ref (dp_t b (!f))) rfl rfl e1 (fr_ble rfl) rfl (Or.inl rfl) ?_
    have e1' := fr_set (c := .inr (.inr (kD, [Value.ref (b + 1), .ref (b + 2), .ref (b + 15), .ref (b + 98), .ref (b + 113), .ref (b + 126), .ref (b + 128), .ref (b + 130), .ref (dp_t b (!f)), .ref (dp_t b (!f))]))) e1
    (repeat (first | refine pm_W.ts rfl rfl ?_ | refine pm_W.tl rfl rfl ?_))
    refine pm_W.put (v := .ref (dp_t b f)) rfl rfl e1' (fr_ble rfl) rfl (Or.inl rfl) ?_
    have e1'' := fr_set (c := .inr (.inr (kD, [Value.ref (b + 1), .ref (b + 2), .ref (b + 15), .ref (b + 98), .ref (b + 113), .ref (b + 126), .ref (b + 128), .ref (b + 130), .ref (dp_t b (!f)), .ref (dp_t b f)]))) e1'
    have hag2 : fr_ag b (b + 1) g2 ((g2.1.set b (.inr (.inr (kD, [Value.ref (b + 1), .ref (b + 2), .ref (b + 15), .ref (b + 98), .ref (b + 113), .ref (b + 126), .ref (b + 128), .ref (b + 130), .ref (dp_t b (!f)), .ref (dp_t b (!f))])))).set b (.inr (.inr (kD, [Value.ref (b + 1), .ref (b + 2), .ref (b + 15), .ref (b + 98), .ref (b + 113), .ref (b + 126), .ref (b + 128), .ref (b + 130), .ref (dp_t b (!f)), .ref (dp_t b f)]))), g2.2) := (fr_agset (by omega) (by omega)).tr (fr_agset (by omega) (by omega))
    (repeat (first | refine pm_W.ts rfl rfl ?_ | refine pm_W.tl rfl rfl ?_))
    refine pm_W.iret rfl rfl (kO S1 _ hI ?_ ⟨hag2.2.1.trans q2.1, hag2.1.trans q2.2.1, fun k hk hq => (hag2.2.2 k (by omega)).trans (q2.2.2 k hk hq)⟩)
    have hff : (!(!f)) = f := Bool.not_not f
    refine ⟨?_, hag2.at (by omega) e2, hag2.at (by omega) e3, fun i hi => (e4 i hi).ag hag2 (by omega), e5.ag hag2 (by omega), e6.ag hag2 (by omega), hag2.at (by omega) e7, fun s hs => (e8 s hs).ag hag2 (by omega), e9.imp fun _ q => q.ag hag2 (by omega), e10.ag hag2 (by omega), hag2.at (by omega) e11, e12, hT2.ag hag2 (by omega), S, by rw [hff]; exact e13.ag hag2 (by omega), hS⟩
    rw [hff]
    exact e1''
end UNPACK
