theorem tr_best_spec {f : Nat → Bool} {g : Nat → Nat} {w : Nat} : ∀ n, (∀ b, tr_best f g w n = some b → 1 ≤ b ∧ b ≤ n ∧ f b = true ∧ w < g b ∧ ∀ s, 1 ≤ s → s ≤ n → f s = true → w < g s → g b ≤ g s) ∧ (tr_best f g w n = none → ∀ s, 1 ≤ s → s ≤ n → f s = true → ¬ w < g s) := by
  intro n
  induction n with
  | zero => exact ⟨(fun b hb => by cases hb), fun _ s h1 h2 => absurd h2 (by omega)⟩
  | succ n ih =>
    obtain ⟨i1, i2⟩ := ih
    by_cases c : f (n + 1) = true ∧ w < g (n + 1) ∧ (∀ b, tr_best f g w n = some b → g (n + 1) < g b)
    · have e : tr_best f g w (n + 1) = some (n + 1) := by rw [tr_best, if_pos c]
      rw [e]
      refine ⟨fun b hb => ?_, fun z => by cases z⟩
      cases hb
      refine ⟨by omega, by omega, c.1, c.2.1, fun s h1 h2 h3 h4 => ?_⟩
      by_cases cs : s = n + 1
      · rw [cs]; exact Nat.le_refl _
      · cases hn : tr_best f g w n with
        | none => exact absurd h4 (i2 hn s h1 (by omega) h3)
        | some b =>
          have := c.2.2 b hn
          have := (i1 b hn).2.2.2.2 s h1 (by omega) h3 h4
          omega
    · have e : tr_best f g w (n + 1) = tr_best f g w n := by rw [tr_best, if_neg c]
      rw [e]
      refine ⟨fun b hb => ?_, fun hn s h1 h2 h3 h4 => ?_⟩
      · obtain ⟨j1, j2, j3, j4, j5⟩ := i1 b hb
        refine ⟨j1, by omega, j3, j4, fun s h1 h2 h3 h4 => ?_⟩
        by_cases cs : s = n + 1
        · subst cs
          rcases Nat.lt_or_ge (g (n + 1)) (g b) with q | q
          · exact absurd ⟨h3, h4, fun b' hb' => by rw [hb] at hb'; cases hb'; exact q⟩ c
          · exact q
        · exact j5 s h1 (by omega) h3 h4
      · by_cases cs : s = n + 1
        · subst cs
          exact c ⟨h3, h4, fun b hb => by rw [hn] at hb; cases hb⟩
        · exact i2 hn s h1 (by omega) h3 h4
theorem tr_best_eq {f f' : Nat → Bool} {g g' : Nat → Nat} {w : Nat} : ∀ n, (∀ s, 1 ≤ s → s ≤ n → f s = f' s) → (∀ s, 1 ≤ s → s ≤ n → f s = true → g s = g' s) → tr_best f g w n = tr_best f' g' w n := by
  intro n
  induction n with
  | zero => intro _ _; rfl
  | succ n ih =>
    intro hf hg
    have e := ih (fun s h1 h2 => hf s h1 (by omega)) (fun s h1 h2 => hg s h1 (by omega))
    by_cases c : f (n + 1) = true ∧ w < g (n + 1) ∧ (∀ b, tr_best f g w n = some b → g (n + 1) < g b)
    · have c' : f' (n + 1) = true ∧ w < g' (n + 1) ∧ (∀ b, tr_best f' g' w n = some b → g' (n + 1) < g' b) := by
        refine ⟨by rw [← hf (n + 1) (by omega) (by omega)]; exact c.1, by rw [← hg (n + 1) (by omega) (by omega) c.1]; exact c.2.1, fun b hb => ?_⟩
        rw [← e] at hb
        have q := (tr_best_spec n).1 b hb
        rw [← hg (n + 1) (by omega) (by omega) c.1, ← hg b (by omega) (by omega) q.2.2.1]
        exact c.2.2 b hb
      rw [tr_best, if_pos c, tr_best, if_pos c']
    · have c' : ¬ (f' (n + 1) = true ∧ w < g' (n + 1) ∧ (∀ b, tr_best f' g' w n = some b → g' (n + 1) < g' b)) := by
        intro c'
        have hf1 : f (n + 1) = true := by rw [hf (n + 1) (by omega) (by omega)]; exact c'.1
        refine c ⟨hf1, by rw [hg (n + 1) (by omega) (by omega) hf1]; exact c'.2.1, fun b hb => ?_⟩
        have q := (tr_best_spec n).1 b hb
        rw [hg (n + 1) (by omega) (by omega) hf1, hg b (by omega) (by omega) q.2.2.1]
        rw [e] at hb
        exact c'.2.2 b hb
      rw [tr_best, if_neg c, tr_best, if_neg c']
      exact e
theorem tr_sm_take {f f' : Nat → Bool} {g : Nat → Nat} {s0 : Nat} (h1 : 1 ≤ s0) (ht : f s0 = true) (hf : f' s0 = false) : ∀ n, s0 ≤ n → (∀ s, 1 ≤ s → s ≤ n → s ≠ s0 → f s = f' s) → tr_sm f g n = tr_sm f' g n + g s0 := by
  intro n
  induction n with
  | zero => intro h; omega
  | succ n ih =>
    intro hn he
    rw [show tr_sm f g (n + 1) = tr_sm f g n + (if f (n + 1) = true then g (n + 1) else 0) from rfl, show tr_sm f' g (n + 1) = tr_sm f' g n + (if f' (n + 1) = true then g (n + 1) else 0) from rfl]
    by_cases c : s0 = n + 1
    · subst c
      rw [if_pos ht, if_neg (by rw [hf]; exact Bool.false_ne_true), tr_sm_eq n (fun s a b => by rw [he s a (by omega) (by omega)])]
      rfl
    · have := ih (by omega) (fun s a b d => he s a (by omega) d)
      rw [this, he (n + 1) (by omega) (by omega) (fun z => c z.symm)]
      omega
def em_c (T : te_T) (D s : Nat) : Bool := decide (tP T (s - 1) ≠ 0 ∧ pa_up (tP T (s - 1)) = D)
def em_n (T : te_T) (s : Nat) : Nat := pa_last (tP T (s - 1))
def em_best (T : te_T) (D w : Nat) : Option Nat := tr_best (em_c T D) (em_n T) w 10
def em_nx (T : te_T) (l : Nat) : Option Nat := tr_best (fun s => decide (tP T (s - 1) ≠ 0)) (fun s => od (tP T (s - 1)) 6) l 10
def em_file (T : te_T) (e : Nat) : List Int32 := [1, nI (pa_last (tP T e)), nI (tB T e).length] ++ tB T e
def em_ent (T : te_T) (e : Nat) : List Int32 := if tK T e = 1 then em_file T e else [2, nI (pa_last (tP T e))]
def em_step (T : te_T) (D w : Nat) (o : List Int32) : ws_Q := match em_best T D w with
  | none => (if D = 0 then none else some (pa_up D), pa_last D, o ++ [9, nI (tr_cnt (em_c T D) 10)])
  | some s => if tK T (s - 1) = 1 then (some D, pa_last (tP T (s - 1)), o ++ em_file T (s - 1)) else (some (tP T (s - 1)), 0, o ++ [2, nI (pa_last (tP T (s - 1)))])
def em_run (T : te_T) : Nat → ws_Q → ws_Q
  | 0, q => q
  | f + 1, q => match q.1 with
    | none => q
    | some d => em_run T f (em_step T d q.2.1 q.2.2)
def em_out (T : te_T) : List Int32 := (em_run T 22 (some 0, 0, [])).2.2
theorem em_run_none {T : te_T} {w : Nat} {o : List Int32} : ∀ f, em_run T f (none, w, o) = (none, w, o) := by
  intro f
  cases f with
  | zero => rfl
  | succ f => rfl
section EMACH
variable {S : tr_S} {T : te_T}
theorem em_best_some {D w s : Nat} (h : em_best T D w = some s) : ∃ c, c < 10 ∧ s = c + 1 ∧ tP T c ≠ 0 ∧ pa_up (tP T c) = D ∧ w < pa_last (tP T c) ∧ ∀ e', e' < 10 → tP T e' ≠ 0 → pa_up (tP T e') = D → w < pa_last (tP T e') → pa_last (tP T c) ≤ pa_last (tP T e') := by
  obtain ⟨a1, a2, a3, a4, a5⟩ := (tr_best_spec 10).1 s h
  obtain ⟨c, rfl⟩ : ∃ c, s = c + 1 := ⟨s - 1, by omega⟩
  have b := of_decide_eq_true a3
  rw [show c + 1 - 1 = c by omega] at b
  unfold em_n at a4 a5
  rw [show c + 1 - 1 = c by omega] at a4 a5
  refine ⟨c, by omega, rfl, b.1, b.2, a4, fun e' h1 h2 h3 h4 => ?_⟩
  have := a5 (e' + 1) (by omega) (by omega) (decide_eq_true (by rw [show e' + 1 - 1 = e' by omega]; exact ⟨h2, h3⟩))
  rw [show e' + 1 - 1 = e' by omega] at this
  exact this h4
theorem em_best_none {D w : Nat} (h : em_best T D w = none) : ∀ e', e' < 10 → tP T e' ≠ 0 → pa_up (tP T e') = D → ¬ w < pa_last (tP T e') := by
  intro e' h1 h2 h3
  have := (tr_best_spec 10).2 h (e' + 1) (by omega) (by omega) (decide_eq_true (by rw [show e' + 1 - 1 = e' by omega]; exact ⟨h2, h3⟩))
  unfold em_n at this
  rw [show e' + 1 - 1 = e' by omega] at this
  exact this
theorem em_nx_some {l s : Nat} (h : em_nx T l = some s) : ∃ c, c < 10 ∧ s = c + 1 ∧ tP T c ≠ 0 ∧ l < od (tP T c) 6 ∧ ∀ e', e' < 10 → tP T e' ≠ 0 → l < od (tP T e') 6 → od (tP T c) 6 ≤ od (tP T e') 6 := by
  obtain ⟨a1, a2, a3, a4, a5⟩ := (tr_best_spec 10).1 s h
  obtain ⟨c, rfl⟩ : ∃ c, s = c + 1 := ⟨s - 1, by omega⟩
  have b := of_decide_eq_true a3
  rw [show c + 1 - 1 = c by omega] at b a4 a5
  refine ⟨c, by omega, rfl, b, a4, fun e' h1 h2 h4 => ?_⟩
  have := a5 (e' + 1) (by omega) (by omega) (decide_eq_true (by rw [show e' + 1 - 1 = e' by omega]; exact h2))
  rw [show e' + 1 - 1 = e' by omega] at this
  exact this h4
theorem em_nx_none {l : Nat} (h : em_nx T l = none) : ∀ e', e' < 10 → tP T e' ≠ 0 → ¬ l < od (tP T e') 6 := by
  intro e' h1 h2
  have := (tr_best_spec 10).2 h (e' + 1) (by omega) (by omega) (decide_eq_true (by rw [show e' + 1 - 1 = e' by omega]; exact h2))
  rw [show e' + 1 - 1 = e' by omega] at this
  exact this
def em_l (T : te_T) (D w l : Nat) : Prop := ∀ e, e < 10 → tP T e ≠ 0 → (l < od (tP T e) 6 ↔ bh D w (tP T e))
theorem em_link (hV : tV T) {D w l c : Nat} (hD : pa_ok D = true) (hl : em_l T D w l) (h : em_best T D w = some (c + 1)) : em_nx T l = some (c + 1) := by
  obtain ⟨c', a1, a2, a3, a4, a5, a6⟩ := em_best_some h
  have : c' = c := by omega
  subst this
  have hb := (bh_child (tV_ok hV a1 a3) a3 a4).mpr a5
  have hlc := (hl c' a1 a3).mpr hb
  cases hn : em_nx T l with
  | none => exact absurd hlc (em_nx_none hn c' a1 a3)
  | some s =>
    obtain ⟨e, b1, b2, b3, b4, b5⟩ := em_nx_some hn
    have l1 := b5 c' a1 a3 hlc
    have l2 := bh_first hV a1 a3 a4 a5 a6 hD b1 b3 ((hl e b1 b3).mp b4)
    have := od_inj (tV_ok hV b1 b3) (tV_ok hV a1 a3) (by omega)
    have := hV.2.1 e c' b1 a1 b3 this
    rw [b2, this]
theorem em_link0 (hV : tV T) {D w l : Nat} (hl : em_l T D w l) (h : em_best T D w = none) {e : Nat} (hn : em_nx T l = some (e + 1)) : pa_up (tP T e) ≠ D := by
  obtain ⟨e', b1, b2, b3, b4, b5⟩ := em_nx_some hn
  have : e' = e := by omega
  subst this
  intro hD
  have := (bh_child (tV_ok hV b1 b3) b3 hD).mp ((hl e' b1 b3).mp b4)
  exact em_best_none h e' b1 b3 hD this
theorem em_l_close (hV : tV T) {D w l : Nat} (hD : pa_ok D = true) (hw : w ≤ 31) (hD0 : D ≠ 0) (hl : em_l T D w l) (h : em_best T D w = none) : em_l T (pa_up D) (pa_last D) l := by
  intro e he h0
  refine ⟨fun q => (bh_none hV (em_best_none h) hD he h0 ((hl e he h0).mp q)).2, fun q => (hl e he h0).mpr (bh_close hD hD0 hw q)⟩
theorem em_l_file (hV : tV T) {c D : Nat} (hc : c < 10) (hc0 : tP T c ≠ 0) (hcD : pa_up (tP T c) = D) (hK : tK T c = 1) : em_l T D (pa_last (tP T c)) (od (tP T c) 6) := fun _ he h0 => bh_file hV hc hc0 hcD hK he h0
theorem em_l_dir (hV : tV T) {c : Nat} (hc : c < 10) (hc0 : tP T c ≠ 0) : em_l T (tP T c) 0 (od (tP T c) 6) := fun _ he h0 => bh_dir (tV_ok hV he h0) (tV_ok hV hc hc0)
theorem em_l_start (hV : tV T) : em_l T 0 0 0 := fun _ he h0 => bh_start hV he h0
def em_m (T : te_T) (g : Nat → Nat) (l : Nat) : Nat := tr_sm (fun s => decide (tP T (s - 1) ≠ 0 ∧ l < od (tP T (s - 1)) 6)) g 10
theorem em_m_next (hV : tV T) {g : Nat → Nat} {l c : Nat} (h : em_nx T l = some (c + 1)) : em_m T g l = em_m T g (od (tP T c) 6) + g (c + 1) := by
  obtain ⟨c', a1, a2, a3, a4, a5⟩ := em_nx_some h
  have : c' = c := by omega
  subst this
  unfold em_m
  refine tr_sm_take (by omega) (decide_eq_true (by rw [show c' + 1 - 1 = c' by omega]; exact ⟨a3, a4⟩)) (decide_eq_false (fun z => by rw [show c' + 1 - 1 = c' by omega] at z; exact absurd z.2 (Nat.lt_irrefl _))) 10 (by omega) (fun s h1 h2 h3 => ?_)
  obtain ⟨e, rfl⟩ : ∃ e, s = e + 1 := ⟨s - 1, by omega⟩
  rw [show e + 1 - 1 = e by omega]
  apply decide_eq_decide.mpr
  constructor
  · intro ⟨q1, q2⟩
    have := a5 e (by omega) q1 q2
    refine ⟨q1, ?_⟩
    rcases Nat.lt_or_eq_of_le this with r | r
    · exact r
    · have := od_inj (tV_ok hV a1 a3) (tV_ok hV (by omega) q1) r
      have := hV.2.1 c' e a1 (by omega) a3 this
      omega
  · intro ⟨q1, q2⟩
    exact ⟨q1, by omega⟩
def em_w (T : te_T) (s : Nat) : Nat := if tK T (s - 1) = 1 then 3 + (tB T (s - 1)).length else 4
theorem em_ent_len {e : Nat} : (em_ent T e).length + (if tK T e = 1 then 0 else 2) = em_w T (e + 1) := by
  unfold em_ent em_w em_file
  rw [show e + 1 - 1 = e by omega]
  by_cases c : tK T e = 1
  · rw [if_pos c, if_pos c, if_pos c, List.length_append]
    show 3 + (tB T e).length + 0 = _
    omega
  · rw [if_neg c, if_neg c, if_neg c]
    rfl
theorem em_m_2 {l : Nat} : em_m T (fun _ => 2) l ≤ 20 := by
  have := tr_sm_le (f := fun s => decide (tP T (s - 1) ≠ 0 ∧ l < od (tP T (s - 1)) 6)) (g := fun _ => 2) (b := 2) (fun _ => Nat.le_refl _) 10
  exact this
theorem em_m_w (hV : tV T) {l : Nat} : em_m T (em_w T) l ≤ 115 := by
  have key : ∀ n, n ≤ 10 → tr_sm (fun s => decide (tP T (s - 1) ≠ 0 ∧ l < od (tP T (s - 1)) 6)) (em_w T) n + tr_cnt (fun s => decide (tP T (s - 1) ≠ 0 ∧ tK T (s - 1) = 1)) n ≤ 4 * n + tr_sm (fun s => decide (tP T (s - 1) ≠ 0 ∧ tK T (s - 1) = 1)) (fun s => (tB T (s - 1)).length) n ∧ tr_sm (fun s => decide (tP T (s - 1) ≠ 0 ∧ tK T (s - 1) = 1)) (fun s => (tB T (s - 1)).length) n ≤ 16 * tr_cnt (fun s => decide (tP T (s - 1) ≠ 0 ∧ tK T (s - 1) = 1)) n := by
    intro n
    induction n with
    | zero => intro _; exact ⟨Nat.le_refl _, Nat.le_refl _⟩
    | succ n ih =>
      intro hn
      obtain ⟨i1, i2⟩ := ih (by omega)
      have hB : tP T n ≠ 0 → (tB T n).length ≤ 16 := fun h0 => (hV.1 n (by omega) h0).2.2.1
      unfold tr_sm tr_cnt em_w
      unfold em_w at i1
      rw [show n + 1 - 1 = n by omega]
      by_cases c : tP T n ≠ 0 ∧ tK T n = 1
      · have b1 := hB c.1
        rw [if_pos (decide_eq_true c), if_pos (decide_eq_true c), if_pos c.2]
        by_cases d : tP T n ≠ 0 ∧ l < od (tP T n) 6
        · rw [if_pos (decide_eq_true d)]
          constructor <;> omega
        · rw [if_neg (fun z => d (of_decide_eq_true z))]
          constructor <;> omega
      · rw [if_neg (fun z => c (of_decide_eq_true z)), if_neg (fun z => c (of_decide_eq_true z))]
        by_cases d : tP T n ≠ 0 ∧ l < od (tP T n) 6
        · rw [if_pos (decide_eq_true d), if_neg (fun z => c ⟨d.1, z⟩)]
          constructor <;> omega
        · rw [if_neg (fun z => d (of_decide_eq_true z))]
          constructor <;> omega
  have k := key 10 (by omega)
  have h80 : te_fb T ≤ 80 := hV.2.2
  unfold te_fb at h80
  unfold em_m
  omega
theorem em_ws (hV : tV T) (htt : tt S T) : ∀ (f d D w : Nat) (o : List Int32), te_at T d D → (∀ s, tr_N S s ≤ 31) → (ws_run S f (some d, w, o)).2.2 = (em_run T f (some D, w, o)).2.2 := by
  intro f
  induction f with
  | zero => intro d D w o _ _; rfl
  | succ f ih =>
    intro d D w o hd hN
    have hcc : ∀ s, 1 ≤ s → s ≤ 10 → tr_c S d s = em_c T D s := by
      intro s h1 h2
      obtain ⟨e, rfl⟩ : ∃ e, s = e + 1 := ⟨s - 1, by omega⟩
      have := tt_c' hV htt (show e < 10 by omega) hd
      unfold em_c
      rw [show e + 1 - 1 = e by omega]
      by_cases c : tP T e ≠ 0 ∧ pa_up (tP T e) = D
      · rw [this.mpr c, decide_eq_true c]
      · rw [decide_eq_false c]
        cases hq : tr_c S d (e + 1) with
        | false => rfl
        | true => exact absurd (this.mp hq) c
    have hnn : ∀ s, 1 ≤ s → s ≤ 10 → tr_c S d s = true → tr_N S s = em_n T s := by
      intro s h1 h2 h3
      obtain ⟨e, rfl⟩ : ∃ e, s = e + 1 := ⟨s - 1, by omega⟩
      have := (tt_c' hV htt (show e < 10 by omega) hd).mp h3
      unfold em_n
      rw [show e + 1 - 1 = e by omega]
      exact ((htt.2 e (by omega)).2 this.1).2.1
    have hb : tr_best (tr_c S d) (tr_N S) w 10 = em_best T D w := tr_best_eq 10 hcc hnn
    have hcnt : tr_cnt (tr_c S d) 10 = tr_cnt (em_c T D) 10 := tr_cnt_eq 10 hcc
    show (ws_run S f (ws_step S d w o)).2.2 = (em_run T f (em_step T D w o)).2.2
    unfold ws_step em_step
    rw [hb]
    cases hq : em_best T D w with
    | none =>
      rw [hcnt]
      show (ws_run S f (tr_P S d, tr_N S d, _)).2.2 = (em_run T f (if D = 0 then none else some (pa_up D), pa_last D, _)).2.2
      rcases hd with ⟨d0, D0⟩ | ⟨e, he, ed, hD0, eD⟩
      · rw [d0, D0, htt.1.2.2, if_pos rfl, em_run_none]
        cases f with
        | zero => rfl
        | succ f => rfl
      · rw [if_neg hD0]
        obtain ⟨-, q2, -, q, q4, q5⟩ := (htt.2 e he).2 (by rw [eD]; exact hD0)
        rw [ed, q4, q2, eD]
        rw [eD] at q5
        exact ih q (pa_up D) _ _ q5 hN
    | some s =>
      obtain ⟨c, a1, a2, a3, a4, a5, a6⟩ := em_best_some hq
      subst a2
      obtain ⟨q1, q2, q3, q, q4, q5⟩ := (htt.2 c a1).2 a3
      show (ws_run S f (if tr_K S (c + 1) = 1 then (some d, tr_N S (c + 1), o ++ ws_file S (c + 1)) else (some (c + 1), 0, o ++ [2, nI (tr_N S (c + 1))]))).2.2 = (em_run T f (if tK T (c + 1 - 1) = 1 then (some D, pa_last (tP T (c + 1 - 1)), o ++ em_file T (c + 1 - 1)) else (some (tP T (c + 1 - 1)), 0, o ++ [2, nI (pa_last (tP T (c + 1 - 1)))]))).2.2
      rw [show c + 1 - 1 = c by omega, q1, q2]
      by_cases hk : tK T c = 1
      · rw [if_pos hk, if_pos hk]
        have : ws_file S (c + 1) = em_file T c := by unfold ws_file em_file; rw [q2, q3]
        rw [this]
        exact ih d D _ _ hd hN
      · rw [if_neg hk, if_neg hk]
        exact ih (c + 1) (tP T c) _ _ (Or.inr ⟨c, a1, rfl, a3, rfl⟩) hN
theorem em_ws_out (hV : tV T) (htt : tt S T) (hok : tr_ok S) : ws_out S = em_out T := em_ws hV htt 22 0 0 0 [] (Or.inl ⟨rfl, rfl⟩) hok.2.2.2.2.1
end EMACH
