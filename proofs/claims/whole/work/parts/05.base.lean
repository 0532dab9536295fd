abbrev pm_C : Type := (Bool × List Int32) ⊕ (Nat × List (Option Nat)) ⊕ (Nat × List Value)
abbrev pm_E : Type := Nat × Instr × Nat × Nat
abbrev pm_MT : Type := Nat × Nat × Bool × Option FieldType × MethodName × ByteArray × List pm_E
def pm_len (pc : Nat) (i : Instr) : Nat := match i with
  | .bipush _ => 2
  | .ldc _ => 2
  | .aload _ => 2
  | .astore _ => 2
  | .iload _ => 2
  | .istore _ => 2
  | .lload _ => 2
  | .lstore _ => 2
  | .newarray _ => 2
  | .sipush _ => 3
  | .ldc_w _ => 3
  | .ldc2_w _ => 3
  | .iinc _ _ => 3
  | .ifCond _ _ => 3
  | .if_icmp _ _ => 3
  | .if_acmp _ _ => 3
  | .ifnull _ => 3
  | .ifnonnull _ => 3
  | .goto _ => 3
  | .getfield _ => 3
  | .putfield _ => 3
  | .getstatic _ => 3
  | .new _ => 3
  | .anewarray _ => 3
  | .checkcast _ => 3
  | .invokevirtual _ => 3
  | .invokespecial _ => 3
  | .invokestatic _ => 3
  | .tableswitch _ _ _ offs => 1 + (3 - pc % 4) + 12 + 4 * offs.size
  | .lookupswitch _ ps => 1 + (3 - pc % 4) + 8 + 8 * ps.size
  | _ => 1
def pm_off (i : Instr) : Option Int := match i with
  | .ifCond _ o => some o
  | .if_icmp _ o => some o
  | .ifnull o => some o
  | .ifnonnull o => some o
  | .goto o => some o
  | _ => none
def pm_look : List pm_E → Nat → Option (Instr × Nat × Nat)
  | [], _ => none
  | e :: l, pc => match Nat.beq e.1 pc with
    | true => some e.2
    | false => pm_look l pc
theorem pm_look_mem {l : List pm_E} {pc : Nat} {q : Instr × Nat × Nat} (h : pm_look l pc = some q) : (pc, q) ∈ l := by
  induction l with
  | nil => cases h
  | cons e l ih =>
    obtain ⟨a, b⟩ := e
    unfold pm_look at h
    split at h
    · rename_i hb
      have hb : a = pc := Nat.eq_of_beq_eq_true hb
      cases h
      subst hb
      exact List.mem_cons_self
    · exact List.mem_cons_of_mem _ (ih h)
def pm_ck1 (code : ByteArray) (e : pm_E) : Bool := decide (decode code e.1 = .ok (e.2.1, pm_len e.1 e.2.1)) && (Nat.beq e.2.2.1 (e.1 + pm_len e.1 e.2.1) && (match pm_off e.2.1 with
  | some o => decide ((e.1 : Int) + o = (e.2.2.2 : Int))
  | none => true))
def pm_ck (r : pm_MT) : Bool := r.2.2.2.2.2.2.all (pm_ck1 r.2.2.2.2.2.1)
theorem pm_ck_all {l : List pm_MT} {r : pm_MT} (h : pm_ck r = true) (k : ∀ x ∈ l, pm_ck x = true) : ∀ x ∈ r :: l, pm_ck x = true := by
  intro x hx
  rcases List.mem_cons.mp hx with rfl | hx
  · exact h
  · exact k x hx
theorem pm_ck_nil : ∀ x ∈ ([] : List pm_MT), pm_ck x = true := by
  intro x hx
  cases hx
