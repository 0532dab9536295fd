def te_c (T : te_T) (e : Nat) : Nat := if tP T e ≠ 0 ∧ tK T e = 1 then (tB T e).length else 0
def te_s (T : te_T) : Nat → Nat
  | 0 => 0
  | n + 1 => te_s T n + te_c T n
section VALID
variable {T : te_T} {p : Nat}
theorem te_fb_s : te_fb T = te_s T 10 := by
  have : ∀ n, tr_sm (fun s => decide (tP T (s - 1) ≠ 0 ∧ tK T (s - 1) = 1)) (fun s => (tB T (s - 1)).length) n = te_s T n := by
    intro n
    induction n with
    | zero => rfl
    | succ n ih =>
      unfold tr_sm te_s
      rw [ih, show n + 1 - 1 = n by omega]
      congr 1
      unfold te_c
      by_cases c : tP T n ≠ 0 ∧ tK T n = 1
      · rw [if_pos c, if_pos (decide_eq_true c)]
      · rw [if_neg c, if_neg (fun z => c (of_decide_eq_true z))]
  exact this 10
theorem te_c_up {e j : Nat} {x : Nat × Nat × List Int32} (h : j ≠ e) : te_c (fr_up T e x) j = te_c T j := by
  unfold te_c
  rw [tP_up, tK_up, tB_up, if_neg h, if_neg h, if_neg h]
theorem te_s_lo {e : Nat} {x : Nat × Nat × List Int32} : ∀ n, n ≤ e → te_s (fr_up T e x) n = te_s T n := by
  intro n
  induction n with
  | zero => intro _; rfl
  | succ n ih =>
    intro hn
    unfold te_s
    rw [ih (by omega), te_c_up (by omega)]
theorem te_s_up {e : Nat} {x : Nat × Nat × List Int32} : ∀ n, e < n → te_s (fr_up T e x) n + te_c T e = te_s T n + te_c (fr_up T e x) e := by
  intro n
  induction n with
  | zero => intro h; omega
  | succ n ih =>
    intro hn
    unfold te_s
    by_cases c : e = n
    · subst c
      rw [te_s_lo e (Nat.le_refl _)]
      omega
    · have := ih (by omega)
      rw [te_c_up (j := n) (fun z => c z.symm)]
      omega
theorem te_s_le {T' : te_T} : ∀ n, (∀ e, e < n → te_c T' e ≤ te_c T e) → te_s T' n ≤ te_s T n := by
  intro n
  induction n with
  | zero => intro _; exact Nat.le_refl _
  | succ n ih =>
    intro h
    have h1 := ih (fun e he => h e (by omega))
    have h2 := h n (by omega)
    unfold te_s
    omega
theorem te_dir_up {e x : Nat} {q : Nat × Nat × List Int32} (h : te_dir T x) (h0 : tP T e = 0 ∨ (tP T e = q.1 ∧ (tK T e = 2 → q.2.1 = 2))) : te_dir (fr_up T e q) x := by
  rcases h with z | ⟨e1, z1, z2, z3⟩
  · exact Or.inl z
  · by_cases c : e1 = e
    · subst c
      rcases h0 with h0 | ⟨h0, h1⟩
      · exact Or.inl (by rw [← z2, h0])
      · exact Or.inr ⟨e1, z1, by rw [tP_up, if_pos rfl, ← h0]; exact z2, by rw [tK_up, if_pos rfl]; exact h1 z3⟩
    · exact Or.inr ⟨e1, z1, by rw [tP_up, if_neg c]; exact z2, by rw [tK_up, if_neg c]; exact z3⟩
theorem tV_create {y : Int32} {v e : Nat} (hV : tV T) (q : cr_ok T p y v e) : tV (fr_up T e (p, v, [])) := by
  obtain ⟨q1, q2, q3, q4, q5, q6, q7, q8, q9⟩ := q
  refine ⟨fun j hj h0 => ?_, fun i j hi hj h0 h1 => ?_, ?_⟩
  · rw [tP_up] at h0 ⊢
    rw [tK_up, tB_up]
    by_cases c : j = e
    · rw [if_pos c, if_pos c, if_pos c]
      exact ⟨q1, q3, Nat.zero_le _, (fun x hx => by cases hx), te_dir_up q6 (Or.inl q8)⟩
    · rw [if_neg c] at h0
      rw [if_neg c, if_neg c, if_neg c]
      obtain ⟨g1, g2, g3, g4, g5⟩ := hV.1 j hj h0
      exact ⟨g1, g2, g3, g4, te_dir_up g5 (Or.inl q8)⟩
  · rw [tP_up] at h0 h1
    rw [tP_up] at h1
    by_cases c : i = e
    · by_cases c' : j = e
      · rw [c, c']
      · rw [if_pos c, if_neg c'] at h1
        exact absurd h1.symm (q5 j hj)
    · by_cases c' : j = e
      · rw [if_neg c, if_pos c'] at h1
        exact absurd h1 (q5 i hi)
      · rw [if_neg c] at h0 h1
        rw [if_neg c'] at h1
        exact hV.2.1 i j hi hj h0 h1
  · have h1 := te_s_up (T := T) (x := (p, v, [])) 10 q7
    have h2 := hV.2.2
    rw [te_fb_s] at h2 ⊢
    have h3 : te_c (fr_up T e (p, v, [])) e = 0 := by
      unfold te_c
      rw [tB_up, if_pos rfl]
      split <;> rfl
    omega
theorem tV_file {e : Nat} {bs : List Int32} (hV : tV T) (q : fl_ok T p e) (h16 : bs.length ≤ 16) (hbs : bt_ok bs) (h80 : te_fb T + bs.length ≤ 80 + (tB T e).length) : tV (fr_up T e (p, 1, bs)) := by
  obtain ⟨q1, q2, q3, q4, q5⟩ := q
  have ne : tP T e ≠ 0 := by rw [q4]; exact q2
  have tp : ∀ j, tP (fr_up T e (p, 1, bs)) j = tP T j := by
    intro j
    rw [tP_up]
    split
    · rename_i c
      rw [c, q4]
    · rfl
  refine ⟨fun j hj h0 => ?_, fun i j hi hj h0 h1 => ?_, ?_⟩
  · rw [tp] at h0 ⊢
    obtain ⟨g1, g2, g3, g4, g5⟩ := hV.1 j hj h0
    have g6 : te_dir (fr_up T e (p, 1, bs)) (pa_up (tP T j)) := te_dir_up g5 (Or.inr ⟨q4, fun z => by omega⟩)
    rw [tK_up, tB_up]
    by_cases c : j = e
    · rw [if_pos c, if_pos c]
      exact ⟨g1, Or.inl rfl, h16, hbs, g6⟩
    · rw [if_neg c, if_neg c]
      exact ⟨g1, g2, g3, g4, g6⟩
  · rw [tp] at h0 h1
    rw [tp] at h1
    exact hV.2.1 i j hi hj h0 h1
  · have h1 := te_s_up (T := T) (x := (p, 1, bs)) 10 q3
    rw [te_fb_s] at h80 ⊢
    have h3 : te_c (fr_up T e (p, 1, bs)) e = bs.length := by
      unfold te_c
      rw [tP_up, tK_up, tB_up, if_pos rfl, if_pos rfl, if_pos rfl, if_pos ⟨q2, rfl⟩]
    have h4 : te_c T e = (tB T e).length := by
      unfold te_c
      rw [if_pos ⟨ne, q5⟩]
    omega
theorem bt_and {v : Int32} : (v &&& 255) &&& 255 = v &&& 255 := by
  rw [Int32.and_assoc, Int32.and_self]
theorem tV_append {v : Int32} {n e : Nat} (hV : tV T) (q : ap_ok T p n e) : tV (fr_up T e (p, 1, tB T e ++ ap_bs v n)) := by
  obtain ⟨q1, q2, q3, q4⟩ := q
  have ne : tP T e ≠ 0 := by rw [q1.2.2.2.1]; exact q1.2.1
  refine tV_file hV q1 (by rw [List.length_append, ap_bs_len]; exact q3) (fun x hx => ?_) (by rw [List.length_append, ap_bs_len]; omega)
  rcases List.mem_append.mp hx with z | z
  · exact (hV.1 e q1.2.2.1 ne).2.2.2.1 x z
  · unfold ap_bs at z
    obtain ⟨i, -, rfl⟩ := List.mem_map.mp z
    exact bt_and
theorem tV_edit {v : Int32} {i e : Nat} (hV : tV T) (q : fl_ok T p e) (hi : i < (tB T e).length) : tV (fr_up T e (p, 1, (tB T e).set i (v &&& 255))) := by
  have ne : tP T e ≠ 0 := by rw [q.2.2.2.1]; exact q.2.1
  obtain ⟨g1, g2, g3, g4, g5⟩ := hV.1 e q.2.2.1 ne
  refine tV_file hV q (by rw [List.length_set]; exact g3) (fun x hx => ?_) (by rw [List.length_set]; have := hV.2.2; omega)
  rcases List.mem_or_eq_of_mem_set hx with z | z
  · exact g4 x z
  · rw [z]; exact bt_and
theorem tV_remove (hV : tV T) (hpo : pa_ok p = true) : tV (rm_T T p) := by
  have keep : ∀ j, tP (rm_T T p) j ≠ 0 → rm_g T p j = false ∧ tP T j ≠ 0 := by
    intro j h0
    rw [rm_tP] at h0
    by_cases c : rm_g T p j = true
    · rw [if_pos c] at h0; exact absurd rfl h0
    · rw [if_neg c] at h0
      exact ⟨Bool.eq_false_iff.mpr c, h0⟩
  have same : ∀ j, rm_g T p j = false → tP (rm_T T p) j = tP T j := by
    intro j c
    rw [rm_tP, c]
    rfl
  refine ⟨fun j hj h0 => ?_, fun i j hi hj h0 h1 => ?_, ?_⟩
  · obtain ⟨c, h0'⟩ := keep j h0
    rw [same j c, rm_tK c, rm_tB c]
    obtain ⟨g1, g2, g3, g4, g5⟩ := hV.1 j hj h0'
    refine ⟨g1, g2, g3, g4, ?_⟩
    rcases g5 with z | ⟨e1, z1, z2, z3⟩
    · exact Or.inl z
    · by_cases u0 : pa_up (tP T j) = 0
      · exact Or.inl u0
      · have c1 := rm_up hV hj h0' c z1 z2 (by rw [z2]; exact u0) hpo
        exact Or.inr ⟨e1, z1, by rw [same e1 c1]; exact z2, by rw [rm_tK c1]; exact z3⟩
  · obtain ⟨c1, g1⟩ := keep i h0
    rw [h1] at h0
    obtain ⟨c2, g2⟩ := keep j h0
    rw [same i c1, same j c2] at h1
    exact hV.2.1 i j hi hj g1 h1
  · have h2 := hV.2.2
    rw [te_fb_s] at h2 ⊢
    refine Nat.le_trans (te_s_le 10 (fun e he => ?_)) h2
    by_cases c : rm_g T p e = true
    · unfold te_c
      rw [rm_tP, if_pos c, if_neg (fun z => z.1 rfl)]
      exact Nat.zero_le _
    · have c := Bool.eq_false_iff.mpr c
      unfold te_c
      rw [same e c, rm_tK c, rm_tB c]
      exact Nat.le_refl _
end VALID
