theorem od_s {p i : Nat} : od p (i + 1) = od p i * 32 + pa_n p i := rfl
theorem od_up {x y j : Nat} (h : od x j < od y j) : ∀ d, od x (j + d) < od y (j + d) := by
  intro d
  induction d with
  | zero => exact h
  | succ d ih =>
    have a := pa_n_lt (p := x) (i := j + d)
    rw [← Nat.add_assoc, od_s, od_s]
    omega
theorem od_up6 {x y j : Nat} (hj : j ≤ 6) (h : od x j < od y j) : od x 6 < od y 6 := by
  have := od_up h (6 - j)
  rw [show j + (6 - j) = 6 by omega] at this
  exact this
theorem od_le {x y j : Nat} (hj : j ≤ 6) (h : od x 6 < od y 6) : od x j ≤ od y j := by
  rcases Nat.lt_or_ge (od y j) (od x j) with c | c
  · have := od_up6 hj c
    omega
  · exact c
theorem od_names {x y : Nat} : ∀ j, od x j = od y j → ∀ i, i < j → pa_n x i = pa_n y i := by
  intro j
  induction j with
  | zero => intro _ i hi; omega
  | succ j ih =>
    intro h i hi
    rw [od_s, od_s] at h
    have a := pa_n_lt (p := x) (i := j)
    have b := pa_n_lt (p := y) (i := j)
    have e1 : od x j = od y j := by omega
    have e2 : pa_n x j = pa_n y j := by omega
    by_cases c : i = j
    · rw [c]; exact e2
    · exact ih e1 i (by omega)
theorem od_of {x y : Nat} : ∀ j, (∀ i, i < j → pa_n x i = pa_n y i) → od x j = od y j := by
  intro j
  induction j with
  | zero => intro _; rfl
  | succ j ih =>
    intro h
    rw [od_s, od_s, ih (fun i hi => h i (by omega)), h j (by omega)]
theorem pa_mod_of {x y : Nat} : ∀ j, (∀ i, i < j → pa_n x i = pa_n y i) → x % 2 ^ (5 * j) = y % 2 ^ (5 * j) := by
  intro j
  induction j with
  | zero => intro _; rw [show 2 ^ (5 * 0) = 1 from rfl, Nat.mod_one, Nat.mod_one]
  | succ j ih =>
    intro h
    have e : 2 ^ (5 * (j + 1)) = 2 ^ (5 * j) * 32 := by rw [show 5 * (j + 1) = 5 * j + 5 by omega, Nat.pow_add]
    have hj := h j (by omega)
    unfold pa_n at hj
    rw [e, Nat.mod_mul, Nat.mod_mul, ih (fun i hi => h i (by omega)), hj]
theorem od_zero {c x j : Nat} (h : od c j ≤ od x j) : ∀ d, (∀ i, j ≤ i → i < j + d → pa_n c i = 0) → od c (j + d) ≤ od x (j + d) := by
  intro d
  induction d with
  | zero => intro _; exact h
  | succ d ih =>
    intro hz
    have a := ih (fun i h1 h2 => hz i h1 (by omega))
    have b := hz (j + d) (by omega) (by omega)
    rw [← Nat.add_assoc, od_s, od_s, b]
    omega
theorem pa_n6 {x i : Nat} (h : pa_ok x = true) (hi : pa_d x ≤ i) : pa_n x i = 0 := by
  have := pa_ok_lt h
  unfold pa_n
  rw [Nat.div_eq_of_lt (Nat.lt_of_lt_of_le this (Nat.pow_le_pow_right (by omega) (by omega)))]
theorem pa_same {x y : Nat} (hx : pa_ok x = true) (hy : pa_ok y = true) (hd : pa_d x = pa_d y) (h : ∀ i, i < pa_d x → pa_n x i = pa_n y i) : x = y := by
  have e := pa_mod_of _ h
  rw [pa_full hx, hd, pa_full hy] at e
  exact e
theorem pa_below {x y : Nat} (hx : pa_ok x = true) (hy : pa_ok y = true) (h : od x (pa_d y) = od y (pa_d y)) : (x = y ∧ pa_n x (pa_d y) = 0) ∨ (pa_d y < pa_d x ∧ pa_n x (pa_d y) ≠ 0 ∧ x % 2 ^ (5 * pa_d y) = y) := by
  obtain ⟨a1, a2, a3⟩ := pa_d_spec x
  obtain ⟨b1, b2, b3⟩ := pa_d_spec y
  have hn := od_names _ h
  have hge : pa_d y ≤ pa_d x := by
    rcases Nat.lt_or_ge (pa_d x) (pa_d y) with c | c
    · rcases a3 with a3 | a3
      · omega
      · rw [hn _ c] at a3
        exact absurd a3 (b2 _ c)
    · exact c
  by_cases c : pa_d x = pa_d y
  · left
    refine ⟨pa_same hx hy c (fun i hi => hn i (by omega)), pa_n6 hx (by omega)⟩
  · right
    refine ⟨by omega, a2 _ (by omega), ?_⟩
    rw [pa_mod_of _ hn, pa_full hy]
def bh (D w x : Nat) : Prop := od D (pa_d D) * 32 + w < od x (pa_d D + 1)
theorem bh_split {x : Nat} (hx : pa_ok x = true) (h0 : x ≠ 0) : pa_d x = pa_d (pa_up x) + 1 ∧ od x (pa_d (pa_up x)) = od (pa_up x) (pa_d (pa_up x)) ∧ pa_n x (pa_d (pa_up x)) = pa_last x ∧ od x (pa_d x) = od (pa_up x) (pa_d (pa_up x)) * 32 + pa_last x := by
  obtain ⟨s1, s2, s3, s4, s5⟩ := pa_split hx h0
  have hd := pa_d_pos hx h0
  have e1 : pa_d x = pa_d (pa_up x) + 1 := by omega
  have e2 : od x (pa_d (pa_up x)) = od (pa_up x) (pa_d (pa_up x)) := by
    apply od_of
    intro i hi
    unfold pa_up
    rw [pa_n_mod, if_pos (by omega)]
  have e3 : pa_n x (pa_d (pa_up x)) = pa_last x := by
    unfold pa_last
    rw [show pa_d x - 1 = pa_d (pa_up x) by omega]
  refine ⟨e1, e2, e3, ?_⟩
  rw [e1, od_s, e2, e3]
theorem bh_child {D w x : Nat} (hx : pa_ok x = true) (h0 : x ≠ 0) (hD : pa_up x = D) : bh D w x ↔ w < pa_last x := by
  obtain ⟨e1, e2, e3, e4⟩ := bh_split hx h0
  rw [hD] at e1 e2 e3 e4
  unfold bh
  rw [od_s, e2, e3]
  omega
section ORDER
variable {T : te_T}
theorem tV_ok (hV : tV T) {e : Nat} (he : e < 10) (h0 : tP T e ≠ 0) : pa_ok (tP T e) = true := (hV.1 e he h0).1
theorem tV_pre (hV : tV T) {e : Nat} (he : e < 10) (h0 : tP T e ≠ 0) : ∀ t j, j + t = pa_d (tP T e) → 1 ≤ j → ∃ e', e' < 10 ∧ tP T e' = tP T e % 2 ^ (5 * j) ∧ (1 ≤ t → tK T e' = 2) := by
  intro t
  induction t with
  | zero =>
    intro j hj h1
    refine ⟨e, he, ?_, fun z => by omega⟩
    rw [show j = pa_d (tP T e) by omega, pa_full (tV_ok hV he h0)]
  | succ t ih =>
    intro j hj h1
    obtain ⟨e2, g1, g2, -⟩ := ih (j + 1) (by omega) (by omega)
    obtain ⟨u1, u2, u3⟩ := pa_pre_up (p := tP T e) (k := j) (by omega)
    have hne : tP T e2 ≠ 0 := by rw [g2]; exact u3
    have hd := (hV.1 e2 g1 hne).2.2.2.2
    rw [g2, u1] at hd
    rcases hd with hd | ⟨e3, f1, f2, f3⟩
    · obtain ⟨-, -, u6⟩ := pa_pre_up (p := tP T e) (k := j - 1) (by omega)
      rw [show j - 1 + 1 = j by omega] at u6
      exact absurd hd u6
    · exact ⟨e3, f1, f2, fun _ => f3⟩
theorem bh_has (hV : tV T) {e D : Nat} (he : e < 10) (h0 : tP T e ≠ 0) (hD : pa_ok D = true) (h1 : od (tP T e) (pa_d D) = od D (pa_d D)) (h2 : pa_n (tP T e) (pa_d D) ≠ 0) : ∃ e', e' < 10 ∧ tP T e' ≠ 0 ∧ pa_up (tP T e') = D ∧ pa_last (tP T e') = pa_n (tP T e) (pa_d D) := by
  rcases pa_below (tV_ok hV he h0) hD h1 with ⟨-, c⟩ | ⟨c1, c2, c3⟩
  · exact absurd c h2
  · obtain ⟨e', g1, g2, -⟩ := tV_pre hV he h0 (pa_d (tP T e) - (pa_d D + 1)) (pa_d D + 1) (by omega) (by omega)
    obtain ⟨u1, u2, u3⟩ := pa_pre_up (p := tP T e) (k := pa_d D) (by omega)
    refine ⟨e', g1, ?_, ?_, ?_⟩
    · rw [g2]; exact u3
    · rw [g2, u1, c3]
    · rw [g2, u2]
theorem bh_first (hV : tV T) {c D w e : Nat} (hc : c < 10) (hc0 : tP T c ≠ 0) (hcD : pa_up (tP T c) = D) (hcw : w < pa_last (tP T c)) (hmin : ∀ e', e' < 10 → tP T e' ≠ 0 → pa_up (tP T e') = D → w < pa_last (tP T e') → pa_last (tP T c) ≤ pa_last (tP T e'))
    (hD : pa_ok D = true) (he : e < 10) (h0 : tP T e ≠ 0) (hb : bh D w (tP T e)) : od (tP T c) 6 ≤ od (tP T e) 6 := by
  have hcok := tV_ok hV hc hc0
  obtain ⟨e1, e2, e3, e4⟩ := bh_split hcok hc0
  rw [hcD] at e1 e2 e3 e4
  have h6 := (pa_d_spec (tP T c)).1
  have h31 := (pa_split hcok hc0).2.2.2.2
  rcases Nat.lt_or_ge (od (tP T e) (pa_d (tP T c))) (od (tP T c) (pa_d (tP T c))) with q | q
  · exfalso
    unfold bh at hb
    rw [e4, e1, od_s] at q
    rw [od_s] at hb
    have a := pa_n_lt (p := tP T e) (i := pa_d D)
    have b1 : od (tP T e) (pa_d D) = od D (pa_d D) := by omega
    obtain ⟨e', f1, f2, f3, f4⟩ := bh_has hV he h0 hD b1 (by omega)
    have := hmin e' f1 f2 f3 (by omega)
    omega
  · have := od_zero q (6 - pa_d (tP T c)) (fun i h1 _ => pa_n6 hcok h1)
    rw [show pa_d (tP T c) + (6 - pa_d (tP T c)) = 6 by omega] at this
    exact this
theorem bh_none (hV : tV T) {D w e : Nat} (hno : ∀ e', e' < 10 → tP T e' ≠ 0 → pa_up (tP T e') = D → ¬ w < pa_last (tP T e')) (hD : pa_ok D = true) (he : e < 10) (h0 : tP T e ≠ 0) (hb : bh D w (tP T e)) : D ≠ 0 ∧ bh (pa_up D) (pa_last D) (tP T e) := by
  unfold bh at hb
  rw [od_s] at hb
  have a := pa_n_lt (p := tP T e) (i := pa_d D)
  have hgt : od D (pa_d D) < od (tP T e) (pa_d D) := by
    rcases Nat.lt_trichotomy (od D (pa_d D)) (od (tP T e) (pa_d D)) with q | q | q
    · exact q
    · obtain ⟨e', f1, f2, f3, f4⟩ := bh_has hV he h0 hD q.symm (by omega)
      exact absurd (show w < pa_last (tP T e') by omega) (hno e' f1 f2 f3)
    · omega
  have hD0 : D ≠ 0 := by
    intro z
    rw [z, show pa_d 0 = 0 from rfl] at hgt
    exact absurd hgt (Nat.lt_irrefl _)
  obtain ⟨e1, e2, e3, e4⟩ := bh_split hD hD0
  refine ⟨hD0, ?_⟩
  unfold bh
  rw [← e4, ← e1]
  exact hgt
theorem bh_close {D w x : Nat} (hD : pa_ok D = true) (hD0 : D ≠ 0) (hw : w ≤ 31) (hb : bh (pa_up D) (pa_last D) x) : bh D w x := by
  obtain ⟨e1, e2, e3, e4⟩ := bh_split hD hD0
  unfold bh at hb ⊢
  rw [← e4, ← e1] at hb
  rw [od_s]
  omega
theorem bh_file (hV : tV T) {c D e : Nat} (hc : c < 10) (hc0 : tP T c ≠ 0) (hcD : pa_up (tP T c) = D) (hK : tK T c = 1) (he : e < 10) (h0 : tP T e ≠ 0) : od (tP T c) 6 < od (tP T e) 6 ↔ bh D (pa_last (tP T c)) (tP T e) := by
  have hcok := tV_ok hV hc hc0
  obtain ⟨e1, e2, e3, e4⟩ := bh_split hcok hc0
  rw [hcD] at e1 e2 e3 e4
  have h6 := (pa_d_spec (tP T c)).1
  unfold bh
  rw [← e4, ← e1]
  constructor
  · intro q
    have le := od_le h6 q
    rcases Nat.lt_or_eq_of_le le with r | r
    · exact r
    · exfalso
      rcases pa_below (tV_ok hV he h0) hcok r.symm with ⟨s, -⟩ | ⟨s1, s2, s3⟩
      · rw [s] at q
        exact absurd q (Nat.lt_irrefl _)
      · obtain ⟨e', g1, g2, g3⟩ := tV_pre hV he h0 (pa_d (tP T e) - pa_d (tP T c)) (pa_d (tP T c)) (by omega) (by omega)
        rw [s3] at g2
        have := hV.2.1 e' c g1 hc (by rw [g2]; exact hc0) g2
        rw [this] at g3
        have := g3 (by omega)
        omega
  · exact od_up6 h6
theorem bh_dir {x c : Nat} (hx : pa_ok x = true) (hc : pa_ok c = true) : od c 6 < od x 6 ↔ bh c 0 x := by
  have h6 := (pa_d_spec c).1
  unfold bh
  rw [od_s (p := x) (i := pa_d c)]
  constructor
  · intro q
    have le := od_le h6 q
    rcases Nat.lt_or_eq_of_le le with r | r
    · omega
    · rcases pa_below hx hc r.symm with ⟨s, -⟩ | ⟨s1, s2, s3⟩
      · rw [s] at q
        exact absurd q (Nat.lt_irrefl _)
      · omega
  · intro q
    have a := pa_n_lt (p := x) (i := pa_d c)
    rcases Nat.lt_or_ge (od c (pa_d c)) (od x (pa_d c)) with r | r
    · exact od_up6 h6 r
    · have e : od x (pa_d c) = od c (pa_d c) := by omega
      have hd : pa_d c < 6 := by
        have := (pa_d_spec x).1
        rcases pa_below hx hc e with ⟨-, s⟩ | ⟨s1, -, -⟩
        · omega
        · omega
      refine od_up6 (j := pa_d c + 1) (by omega) ?_
      rw [od_s, od_s, pa_n6 hc (Nat.le_refl _)]
      omega
theorem bh_start (hV : tV T) {e : Nat} (he : e < 10) (h0 : tP T e ≠ 0) : 0 < od (tP T e) 6 ↔ bh 0 0 (tP T e) := by
  have hok := tV_ok hV he h0
  have hn := (pa_d_spec (tP T e)).2.1 0 (pa_d_pos hok h0)
  have b : bh 0 0 (tP T e) := by
    unfold bh
    rw [show pa_d 0 = 0 from rfl, od_s]
    show 0 * 32 + 0 < 0 * 32 + pa_n (tP T e) 0
    omega
  have := (bh_dir hok (show pa_ok 0 = true from rfl)).mpr b
  exact ⟨fun _ => b, fun _ => by omega⟩
theorem od_inj {x y : Nat} (hx : pa_ok x = true) (hy : pa_ok y = true) (h : od x 6 = od y 6) : x = y := by
  have hn := od_names _ h
  obtain ⟨a1, a2, a3⟩ := pa_d_spec x
  obtain ⟨b1, b2, b3⟩ := pa_d_spec y
  have hd : pa_d x = pa_d y := by
    rcases Nat.lt_trichotomy (pa_d x) (pa_d y) with c | c | c
    · rcases a3 with a3 | a3
      · omega
      · rw [hn _ (by omega)] at a3
        exact absurd a3 (b2 _ c)
    · exact c
    · rcases b3 with b3 | b3
      · omega
      · rw [← hn _ (by omega)] at b3
        exact absurd b3 (a2 _ c)
  exact pa_same hx hy hd (fun i hi => hn i (by omega))
end ORDER
