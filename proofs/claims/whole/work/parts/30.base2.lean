def fr_b (c : Bool) : Int32 := if c = true then 1 else 0
theorem fr_bt {c : Bool} (h : c = true) : fr_b c = 1 := by rw [fr_b, if_pos h]
theorem fr_bf {c : Bool} (h : c = false) : fr_b c = 0 := by rw [fr_b, h]; rfl
def fr_ag (lo hi : Nat) (h h' : pm_H) : Prop := h'.2 = h.2 ∧ h'.1.length = h.1.length ∧ ∀ k, k < lo ∨ hi ≤ k → h'.1[k]? = h.1[k]?
theorem fr_ag.rf {lo hi : Nat} {h : pm_H} : fr_ag lo hi h h := ⟨rfl, rfl, fun _ _ => rfl⟩
theorem fr_ag.tr {lo hi : Nat} {h h1 h2 : pm_H} (a : fr_ag lo hi h h1) (b : fr_ag lo hi h1 h2) : fr_ag lo hi h h2 := ⟨b.1.trans a.1, b.2.1.trans a.2.1, fun k hk => (b.2.2 k hk).trans (a.2.2 k hk)⟩
theorem fr_ag.wide {lo hi lo' hi' : Nat} {h h1 : pm_H} (a : fr_ag lo hi h h1) (h1' : lo' ≤ lo) (h2' : hi ≤ hi') : fr_ag lo' hi' h h1 := ⟨a.1, a.2.1, fun k hk => a.2.2 k (by omega)⟩
theorem fr_ag.at {lo hi k : Nat} {h h1 : pm_H} {c : pm_C} (a : fr_ag lo hi h h1) (hk : k < lo ∨ hi ≤ k) (e : h.1[k]? = some c) : h1.1[k]? = some c := (a.2.2 k hk).trans e
theorem fr_agset {lo hi k : Nat} {h : pm_H} {c : pm_C} (h1 : lo ≤ k) (h2 : k < hi) : fr_ag lo hi h (h.1.set k c, h.2) := ⟨rfl, by simp, fun j hj => by
  show (h.1.set k c)[j]? = _
  rw [List.getElem?_set_ne (by omega)]⟩
theorem fr_set {k : Nat} {h : List pm_C} {c c0 : pm_C} (e : h[k]? = some c0) : (h.set k c)[k]? = some c := by
  have hl : k < h.length := (List.getElem?_eq_some_iff.mp e).1
  rw [List.getElem?_set_self hl]
theorem fr_ne {j k : Nat} {h : List pm_C} {c c0 : pm_C} (e : h[j]? = some c0) (hj : k ≠ j) : (h.set k c)[j]? = some c0 := by
  rw [List.getElem?_set_ne hj]; exact e
theorem fr_ble {a b : Nat} (h : Nat.ble a b = true) : a ≤ b := Nat.le_of_ble_eq_true h
theorem fr_nlt {x y : Int32} (h : ¬ x < y) : y ≤ x := Int32.not_lt.mp h
theorem fr_nle {x y : Int32} (h : ¬ x ≤ y) : y < x := Int32.not_le.mp h
theorem fr_lt {x y : Int32} : x < y ↔ x.toInt < y.toInt := Int32.lt_iff_toInt_lt
theorem fr_le {x y : Int32} : x ≤ y ↔ x.toInt ≤ y.toInt := Int32.le_iff_toInt_le
theorem fr_0 : (0 : Int32).toInt = 0 := rfl
theorem fr_eq {x y : Int32} : x = y ↔ x.toInt = y.toInt := Int32.toInt_inj.symm
theorem fr_lo (x : Int32) : -2147483648 ≤ x.toInt := x.le_toInt
theorem fr_hi (x : Int32) : x.toInt < 2147483648 := x.toInt_lt
theorem fr_nat {x : Int32} (h : 0 ≤ x) : ∃ j : Nat, j < 2 ^ 31 ∧ x = nI j := nI_of (fun q => by rw [fr_lt] at q; rw [fr_le] at h; omega)
theorem fr_inc (n : Nat) : nI n + Int32.ofInt 1 = nI (n + 1) := nI_1 n
def fr_shift {α : Type} (d : α) (l : List α) (p i : Nat) : List α := (List.range l.length).map fun j => if p ≤ j ∧ j < i then l.getD (j + 1) d else l.getD j d
theorem fr_shift_len {α : Type} {d : α} {l : List α} {p i : Nat} : (fr_shift d l p i).length = l.length := by simp [fr_shift]
theorem fr_shift_at {α : Type} {d : α} {l : List α} {p i j : Nat} (hj : j < l.length) : (fr_shift d l p i)[j]? = some (if p ≤ j ∧ j < i then l.getD (j + 1) d else l.getD j d) := by
  simp [fr_shift, hj]
theorem fr_shift_0 {α : Type} {d : α} {l : List α} {p : Nat} : fr_shift d l p p = l := by
  apply List.ext_getElem?
  intro j
  by_cases hj : j < l.length
  · rw [fr_shift_at hj, if_neg (by omega), List.getElem?_eq_getElem hj]
    simp [hj]
  · rw [List.getElem?_eq_none (by rw [fr_shift_len]; omega), List.getElem?_eq_none (by omega)]
theorem fr_shift_1 {α : Type} {d : α} {l : List α} {p i : Nat} (hp : p ≤ i) (hi : i + 1 < l.length) : (fr_shift d l p i).set i (l.getD (i + 1) d) = fr_shift d l p (i + 1) := by
  apply List.ext_getElem?
  intro j
  by_cases hj : j < l.length
  · rw [fr_shift_at hj]
    by_cases hji : i = j
    · subst hji
      rw [List.getElem?_set_self (by rw [fr_shift_len]; omega), if_pos (by omega)]
    · rw [List.getElem?_set_ne hji, fr_shift_at hj]
      by_cases hc : p ≤ j ∧ j < i
      · rw [if_pos hc, if_pos (by omega)]
      · rw [if_neg hc, if_neg (by omega)]
  · rw [List.getElem?_eq_none (by rw [List.length_set, fr_shift_len]; omega), List.getElem?_eq_none (by rw [fr_shift_len]; omega)]
theorem fr_shift_n {α : Type} {d : α} {l : List α} {p i : Nat} (hi : i + 1 < l.length) : (fr_shift d l p i).getD (i + 1) d = l.getD (i + 1) d := by
  rw [List.getD_eq_getElem?_getD, fr_shift_at hi, if_neg (by omega)]
  rfl
