theorem pa_pos (k : Nat) : 0 < 2 ^ (5 * k) := Nat.two_pow_pos _
theorem pa_n_mod {p k i : Nat} : pa_n (p % 2 ^ (5 * k)) i = if i < k then pa_n p i else 0 := by
  unfold pa_n
  by_cases h : i < k
  · rw [if_pos h]
    obtain ⟨c, rfl⟩ : ∃ c, k = i + c + 1 := ⟨k - i - 1, by omega⟩
    have e : 2 ^ (5 * (i + c + 1)) = 2 ^ (5 * i) * (32 * 2 ^ (5 * c)) := by
      rw [show 5 * (i + c + 1) = 5 * i + (5 + 5 * c) by omega, Nat.pow_add, Nat.pow_add]
    rw [e, Nat.mod_mul_right_div_self, Nat.mod_mod_of_dvd _ (Nat.dvd_mul_right 32 _)]
  · rw [if_neg h, Nat.div_eq_of_lt]
    exact Nat.lt_of_lt_of_le (Nat.mod_lt _ (pa_pos k)) (Nat.pow_le_pow_right (by omega) (by omega))
theorem pa_d_is {p d : Nat} (h1 : d ≤ 6) (h2 : ∀ i, i < d → pa_n p i ≠ 0) (h3 : d = 6 ∨ pa_n p d = 0) : pa_d p = d := by
  obtain ⟨g1, g2, g3⟩ := pa_d_spec p
  rcases Nat.lt_trichotomy (pa_d p) d with t | t | t
  · rcases g3 with g3 | g3
    · omega
    · exact absurd g3 (h2 _ t)
  · exact t
  · rcases h3 with h3 | h3
    · omega
    · exact absurd h3 (g2 _ t)
theorem pa_ok_lt {p : Nat} (h : pa_ok p = true) : p < 2 ^ (5 * pa_d p) := by
  have h1 := of_decide_eq_true h
  rcases Nat.div_eq_zero_iff.mp h1 with q | q
  · exact absurd q (Nat.ne_of_gt (pa_pos _))
  · exact q
theorem pa_ok_30 {p : Nat} (h : pa_ok p = true) : p < 2 ^ 30 := Nat.lt_of_lt_of_le (pa_ok_lt h) (Nat.pow_le_pow_right (by omega) (by have := (pa_d_spec p).1; omega))
theorem pa_ok_of {p d : Nat} (h : pa_d p = d) (hl : p < 2 ^ (5 * d)) : pa_ok p = true := by
  unfold pa_ok
  rw [h]
  exact decide_eq_true (Nat.div_eq_of_lt hl)
theorem pa_pre {p k : Nat} (hk : k ≤ pa_d p) : pa_d (p % 2 ^ (5 * k)) = k ∧ pa_ok (p % 2 ^ (5 * k)) = true := by
  obtain ⟨g1, g2, g3⟩ := pa_d_spec p
  have e : pa_d (p % 2 ^ (5 * k)) = k := by
    apply pa_d_is (by omega)
    · intro i hi
      rw [pa_n_mod, if_pos hi]
      exact g2 i (by omega)
    · by_cases h6 : k = 6
      · exact Or.inl h6
      · right
        rw [pa_n_mod, if_neg (Nat.lt_irrefl _)]
  exact ⟨e, pa_ok_of e (Nat.mod_lt _ (pa_pos k))⟩
theorem pa_pre_up {p k : Nat} (hk : k < pa_d p) : pa_up (p % 2 ^ (5 * (k + 1))) = p % 2 ^ (5 * k) ∧ pa_last (p % 2 ^ (5 * (k + 1))) = pa_n p k ∧ p % 2 ^ (5 * (k + 1)) ≠ 0 := by
  obtain ⟨e, -⟩ := pa_pre (p := p) (k := k + 1) (by omega)
  have hn : pa_n (p % 2 ^ (5 * (k + 1))) k = pa_n p k := by rw [pa_n_mod, if_pos (by omega)]
  refine ⟨?_, ?_, ?_⟩
  · unfold pa_up
    rw [e, show k + 1 - 1 = k by omega, Nat.mod_mod_of_dvd]
    exact Nat.pow_dvd_pow 2 (by omega)
  · unfold pa_last
    rw [e, show k + 1 - 1 = k by omega]
    exact hn
  · intro z
    rw [z] at hn
    have : pa_n 0 k = 0 := by unfold pa_n; rw [Nat.zero_div]
    rw [this] at hn
    exact (pa_d_spec p).2.1 k hk hn.symm
theorem pa_full {p : Nat} (h : pa_ok p = true) : p % 2 ^ (5 * pa_d p) = p := Nat.mod_eq_of_lt (pa_ok_lt h)
theorem pa_d_pos {p : Nat} (h : pa_ok p = true) (h0 : p ≠ 0) : 1 ≤ pa_d p := by
  apply Nat.pos_of_ne_zero
  intro z
  have := pa_ok_lt h
  rw [z] at this
  have : p < 1 := this
  omega
theorem pa_split {p : Nat} (h : pa_ok p = true) (h0 : p ≠ 0) : p = pa_up p + pa_last p * 2 ^ (5 * (pa_d p - 1)) ∧ pa_d (pa_up p) = pa_d p - 1 ∧ pa_ok (pa_up p) = true ∧ 1 ≤ pa_last p ∧ pa_last p ≤ 31 := by
  have hd := pa_d_pos h h0
  have hlt := pa_ok_lt h
  obtain ⟨g1, g2, g3⟩ := pa_d_spec p
  obtain ⟨e1, e2⟩ := pa_pre (p := p) (k := pa_d p - 1) (by omega)
  have hq : p / 2 ^ (5 * (pa_d p - 1)) < 32 := by
    rw [Nat.div_lt_iff_lt_mul (pa_pos _)]
    have : 2 ^ (5 * pa_d p) = 32 * 2 ^ (5 * (pa_d p - 1)) := by
      rw [show 5 * pa_d p = 5 + 5 * (pa_d p - 1) by omega, Nat.pow_add]
    omega
  have hl : pa_last p = p / 2 ^ (5 * (pa_d p - 1)) := by
    unfold pa_last pa_n
    exact Nat.mod_eq_of_lt hq
  have hne : pa_last p ≠ 0 := g2 (pa_d p - 1) (by omega)
  refine ⟨?_, e1, e2, by omega, by omega⟩
  rw [hl, Nat.mul_comm]
  exact (Nat.mod_add_div p _).symm
theorem pa_inj {p q : Nat} (hp : pa_ok p = true) (hp0 : p ≠ 0) (hq : pa_ok q = true) (hq0 : q ≠ 0) (h1 : pa_up p = pa_up q) (h2 : pa_last p = pa_last q) : p = q := by
  obtain ⟨a1, a2, -⟩ := pa_split hp hp0
  obtain ⟨b1, b2, -⟩ := pa_split hq hq0
  have := pa_d_pos hp hp0
  have := pa_d_pos hq hq0
  have hd : pa_d p = pa_d q := by
    rw [h1] at a2
    omega
  rw [a1, b1, h1, h2, hd]
abbrev te_T : Type := Nat → Nat × Nat × List Int32
def tP (T : te_T) (e : Nat) : Nat := (T e).1
def tK (T : te_T) (e : Nat) : Nat := (T e).2.1
def tB (T : te_T) (e : Nat) : List Int32 := (T e).2.2
def te_at (T : te_T) (q p : Nat) : Prop := (q = 0 ∧ p = 0) ∨ ∃ e, e < 10 ∧ q = e + 1 ∧ p ≠ 0 ∧ tP T e = p
def te_dir (T : te_T) (p : Nat) : Prop := p = 0 ∨ ∃ e, e < 10 ∧ tP T e = p ∧ tK T e = 2
def te_fb (T : te_T) : Nat := tr_sm (fun s => decide (tP T (s - 1) ≠ 0 ∧ tK T (s - 1) = 1)) (fun s => (tB T (s - 1)).length) 10
def tV (T : te_T) : Prop := (∀ e, e < 10 → tP T e ≠ 0 → pa_ok (tP T e) = true ∧ (tK T e = 1 ∨ tK T e = 2) ∧ (tB T e).length ≤ 16 ∧ bt_ok (tB T e) ∧ te_dir T (pa_up (tP T e))) ∧
  (∀ e e', e < 10 → e' < 10 → tP T e ≠ 0 → tP T e = tP T e' → e = e') ∧ te_fb T ≤ 80
def tt (S : tr_S) (T : te_T) : Prop := tr_rt S ∧ ∀ e, e < 10 → (tP T e = 0 ↔ tr_K S (e + 1) = 0) ∧ (tP T e ≠ 0 → tr_K S (e + 1) = tK T e ∧ tr_N S (e + 1) = pa_last (tP T e) ∧ tr_B S (e + 1) = tB T e ∧ ∃ q, tr_P S (e + 1) = some q ∧ te_at T q (pa_up (tP T e)))
section TABLE
variable {S : tr_S} {T : te_T}
theorem te_at_fun {q q' p : Nat} (hV : tV T) (h1 : te_at T q p) (h2 : te_at T q' p) : q = q' := by
  rcases h1 with ⟨rfl, rfl⟩ | ⟨e, he, rfl, hp, ep⟩
  · rcases h2 with ⟨rfl, -⟩ | ⟨e', he', rfl, hp', -⟩
    · rfl
    · exact absurd rfl hp'
  · rcases h2 with ⟨-, rfl⟩ | ⟨e', he', rfl, hp', ep'⟩
    · exact absurd rfl hp
    · have := hV.2.1 e e' he he' (by rw [ep]; exact hp) (ep.trans ep'.symm)
      rw [this]
theorem te_at_inj {q p p' : Nat} (h1 : te_at T q p) (h2 : te_at T q p') : p = p' := by
  rcases h1 with ⟨rfl, rfl⟩ | ⟨e, he, rfl, hp, ep⟩
  · rcases h2 with ⟨-, rfl⟩ | ⟨e', he', e2, -⟩
    · rfl
    · omega
  · rcases h2 with ⟨e2, -⟩ | ⟨e', he', e2, hp', ep'⟩
    · omega
    · have : e = e' := by omega
      subst this
      exact ep.symm.trans ep'
theorem te_at_le {q p : Nat} (h : te_at T q p) : q ≤ 10 := by
  rcases h with ⟨rfl, -⟩ | ⟨e, he, rfl, -⟩ <;> omega
theorem tt_c (h : tt S T) {d e : Nat} (he : e < 10) : tr_c S d (e + 1) = true ↔ tP T e ≠ 0 ∧ te_at T d (pa_up (tP T e)) ∧ tr_P S (e + 1) = some d := by
  unfold tr_c
  rw [decide_eq_true_eq]
  obtain ⟨g1, g2⟩ := h.2 e he
  constructor
  · rintro ⟨hk, hp⟩
    have h0 : tP T e ≠ 0 := fun z => hk (g1.mp z)
    obtain ⟨-, -, -, q, hq, ha⟩ := g2 h0
    rw [hq] at hp
    cases hp
    exact ⟨h0, ha, hq⟩
  · rintro ⟨h0, -, hp⟩
    exact ⟨fun z => h0 (g1.mpr z), hp⟩
theorem tt_c' (hV : tV T) (h : tt S T) {d e p : Nat} (he : e < 10) (hd : te_at T d p) : tr_c S d (e + 1) = true ↔ tP T e ≠ 0 ∧ pa_up (tP T e) = p := by
  rw [tt_c h he]
  constructor
  · rintro ⟨h0, ha, -⟩
    exact ⟨h0, te_at_inj ha hd⟩
  · rintro ⟨h0, hp⟩
    obtain ⟨-, -, -, q, hq, ha⟩ := (h.2 e he).2 h0
    rw [hp] at ha
    have e2 := te_at_fun hV ha hd
    subst e2
    exact ⟨h0, by rw [hp]; exact hd, hq⟩
theorem tt_at (hV : tV T) (h : tt S T) {p : Nat} (hp : pa_ok p = true) : ∀ (k : Nat) (o : Option Nat), k ≤ pa_d p → tr_at S p k o → (∀ q, o = some q → te_at T q (p % 2 ^ (5 * k))) ∧ (o = none → ∀ q, ¬ te_at T q (p % 2 ^ (5 * k))) := by
  intro k
  induction k with
  | zero =>
    intro o _ ho
    have e : p % 2 ^ (5 * 0) = 0 := by rw [Nat.mul_zero, Nat.pow_zero, Nat.mod_one]
    rw [e]
    have ho : o = some 0 := ho
    exact ⟨fun q hq => by rw [ho] at hq; cases hq; exact Or.inl ⟨rfl, rfl⟩, fun hn => by rw [ho] at hn; cases hn⟩
  | succ k ih =>
    intro o hk ⟨o', h1, h2⟩
    obtain ⟨i1, i2⟩ := ih o' (by omega) h1
    obtain ⟨e1, e2, e3⟩ := pa_pre_up (p := p) (k := k) (by omega)
    obtain ⟨-, e4⟩ := pa_pre (p := p) (k := k + 1) hk
    cases o' with
    | none =>
      have h2 : o = none := h2
      refine ⟨(fun q hq => by rw [h2] at hq; cases hq), fun _ q hq => ?_⟩
      rcases hq with ⟨-, z⟩ | ⟨e, he, -, -, ep⟩
      · exact e3 z
      · have hd := ((hV.1 e he (by rw [ep]; exact e3)).2.2.2.2)
        rw [ep, e1] at hd
        rcases hd with z | ⟨e', he', ep', -⟩
        · exact i2 rfl 0 (Or.inl ⟨rfl, z⟩)
        · by_cases z : p % 2 ^ (5 * k) = 0
          · exact i2 rfl 0 (Or.inl ⟨rfl, z⟩)
          · exact i2 rfl (e' + 1) (Or.inr ⟨e', he', rfl, z, ep'⟩)
    | some d =>
      have hd := i1 d rfl
      have key : ∀ e, e < 10 → ((tr_c S d (e + 1) = true ∧ tr_N S (e + 1) = pa_n p k) ↔ tP T e = p % 2 ^ (5 * (k + 1))) := by
        intro e he
        constructor
        · rintro ⟨hc, hn⟩
          obtain ⟨h0, hu⟩ := (tt_c' hV h he hd).mp hc
          have hN := ((h.2 e he).2 h0).2.1
          exact pa_inj (hV.1 e he h0).1 h0 e4 e3 (hu.trans e1.symm) ((hN.symm.trans hn).trans e2.symm)
        · intro ep
          have h0 : tP T e ≠ 0 := by rw [ep]; exact e3
          refine ⟨(tt_c' hV h he hd).mpr ⟨h0, by rw [ep]; exact e1⟩, ?_⟩
          rw [((h.2 e he).2 h0).2.1, ep]
          exact e2
      rcases h2 with ⟨s, hs, hs1, hs2, hc, hn⟩ | ⟨hn, hno⟩
      · obtain ⟨e, rfl⟩ : ∃ e, s = e + 1 := ⟨s - 1, by omega⟩
        have ep := (key e (by omega)).mp ⟨hc, hn⟩
        exact ⟨fun q hq => by rw [hs] at hq; cases hq; exact Or.inr ⟨e, by omega, rfl, e3, ep⟩, fun z => by rw [hs] at z; cases z⟩
      · refine ⟨(fun q hq => by rw [hn] at hq; cases hq), fun _ q hq => ?_⟩
        rcases hq with ⟨-, z⟩ | ⟨e, he, -, -, ep⟩
        · exact e3 z
        · exact hno (e + 1) (by omega) (by omega) ((key e he).mpr ep)
theorem tt_find (hV : tV T) (h : tt S T) {p : Nat} {o : Option Nat} (hp : pa_ok p = true) (ho : tr_at S p (pa_d p) o) : (∀ q, o = some q → te_at T q p) ∧ (o = none → ∀ q, ¬ te_at T q p) := by
  have := tt_at hV h hp (pa_d p) o (Nat.le_refl _) ho
  rw [pa_full hp] at this
  exact this
end TABLE
