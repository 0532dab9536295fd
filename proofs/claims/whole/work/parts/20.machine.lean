abbrev pm_H : Type := List pm_C × Nat
abbrev pm_none : Value := .retAddr 0
abbrev pm_scr : Value := .retAddr 1

def pm_i1 (f : Int32 → Value) : List Value → Option (List Value)
  | .int x :: st => some (f x :: st)
  | _ => none
def pm_l1 (f : Int64 → Value) : List Value → Option (List Value)
  | .long x :: st => some (f x :: st)
  | _ => none
def pm_i2 (f : Int32 → Int32 → Option Value) : List Value → Option (List Value)
  | .int y :: .int x :: st => match f x y with | some v => some (v :: st) | none => none
  | _ => none
def pm_l2 (f : Int64 → Int64 → Option Value) : List Value → Option (List Value)
  | .long y :: .long x :: st => match f x y with | some v => some (v :: st) | none => none
  | _ => none
def pm_li (f : Int64 → Int32 → Value) : List Value → Option (List Value)
  | .int y :: .long x :: st => some (f x y :: st)
  | _ => none
def pm_ldi (L : List Value) (k : Nat) (st : List Value) : Option (List Value) := match L[k]? with
  | some (.int x) => some (.int x :: st)
  | _ => none
def pm_ldl (L : List Value) (k : Nat) (st : List Value) : Option (List Value) := match L[k]? with
  | some (.long x) => some (.long x :: st)
  | _ => none
def pm_lda (L : List Value) (k : Nat) (st : List Value) : Option (List Value) := match L[k]? with
  | some (.ref x) => some (.ref x :: st)
  | some .null => some (.null :: st)
  | some (.retAddr 1) => some (.retAddr 1 :: st)
  | _ => none

def pm_ushr (x y : Int32) : Int32 := (x.toUInt32 >>> (y.toUInt32 &&& Int32.toUInt32 31)).toInt32
def pm_ts (i : Instr) (L st : List Value) : Option (List Value) := match i with
  | .iconst n => some (.int (Int32.ofInt n) :: st)
  | .bipush n => some (.int (Int8.ofInt n).toInt32 :: st)
  | .sipush n => some (.int (Int16.ofInt n).toInt32 :: st)
  | .lconst n => some (.long (Int64.ofNat n.val) :: st)
  | .aconst_null => some (.null :: st)
  | .iload_n k => pm_ldi L k.val st
  | .iload k => pm_ldi L k st
  | .lload_n k => pm_ldl L k.val st
  | .lload k => pm_ldl L k st
  | .aload_n k => pm_lda L k.val st
  | .aload k => pm_lda L k st
  | .iadd => pm_i2 (fun x y => some (.int (x + y))) st
  | .isub => pm_i2 (fun x y => some (.int (x - y))) st
  | .imul => pm_i2 (fun x y => some (.int (x * y))) st
  | .iand => pm_i2 (fun x y => some (.int (x &&& y))) st
  | .ior => pm_i2 (fun x y => some (.int (x ||| y))) st
  | .ixor => pm_i2 (fun x y => some (.int (x ^^^ y))) st
  | .idiv => pm_i2 (fun x y => if y = 0 then none else some (.int (x / y))) st
  | .irem => pm_i2 (fun x y => if y = 0 then none else some (.int (x - x / y * y))) st
  | .ishl => pm_i2 (fun x y => some (.int (x <<< (y &&& 31)))) st
  | .ishr => pm_i2 (fun x y => some (.int (x >>> (y &&& 31)))) st
  | .iushr => pm_i2 (fun x y => some (.int (pm_ushr x y))) st
  | .ineg => pm_i1 (fun x => .int (-x)) st
  | .i2l => pm_i1 (fun x => .long x.toInt64) st
  | .l2i => pm_l1 (fun x => .int x.toInt32) st
  | .ladd => pm_l2 (fun x y => some (.long (x + y))) st
  | .lsub => pm_l2 (fun x y => some (.long (x - y))) st
  | .lmul => pm_l2 (fun x y => some (.long (x * y))) st
  | .land => pm_l2 (fun x y => some (.long (x &&& y))) st
  | .lor => pm_l2 (fun x y => some (.long (x ||| y))) st
  | .lxor => pm_l2 (fun x y => some (.long (x ^^^ y))) st
  | .lcmp => pm_l2 (fun x y => some (.int (lg_cmp x y))) st
  | .lshl => pm_li (fun x y => .long (x <<< (y.toInt64 &&& 63))) st
  | .lshr => pm_li (fun x y => .long (x >>> (y.toInt64 &&& 63))) st
  | .lushr => pm_li (fun x y => .long (x.toUInt64 >>> (y.toInt64.toUInt64 &&& Int64.toUInt64 63)).toInt64) st
  | .dup => match st with | v :: st => if v.category = 1 then some (v :: v :: st) else none | _ => none
  | .pop => match st with | v :: st => if v.category = 1 then some st else none | _ => none
  | .dup_x1 => match st with | v :: w :: st => if v.category = 1 ∧ w.category = 1 then some (v :: w :: v :: st) else none | _ => none
  | .dup2 => match st with | v :: w :: st => if v.category = 1 ∧ w.category = 1 then some (v :: w :: v :: w :: st) else none | _ => none
  | _ => none

def pm_low (L : List Value) : Nat → Bool
  | 0 => true
  | k + 1 => match L[k]? with | some v => v.category != 2 | none => true
def pm_st1 (L : List Value) (i : Nat) (v : Value) : Option (List Value) := if i < L.length ∧ pm_low L i = true then some (L.set i v) else none
def pm_st2 (L : List Value) (i : Nat) (v : Value) : Option (List Value) := if i + 1 < L.length ∧ pm_low L i = true then some ((L.set i v).set (i + 1) pm_none) else none
def pm_sti (L st : List Value) (i : Nat) : Option (List Value × List Value) := match st with
  | .int x :: st => match pm_st1 L i (.int x) with | some L' => some (L', st) | none => none
  | _ => none
def pm_stl (L st : List Value) (i : Nat) : Option (List Value × List Value) := match st with
  | .long x :: st => match pm_st2 L i (.long x) with | some L' => some (L', st) | none => none
  | _ => none
def pm_sta (L st : List Value) (i : Nat) : Option (List Value × List Value) := match st with
  | .ref x :: st => match pm_st1 L i (.ref x) with | some L' => some (L', st) | none => none
  | .null :: st => match pm_st1 L i .null with | some L' => some (L', st) | none => none
  | .retAddr 1 :: st => match pm_st1 L i (.retAddr 1) with | some L' => some (L', st) | none => none
  | _ => none
def pm_tl (i : Instr) (L st : List Value) : Option (List Value × List Value) := match i with
  | .istore_n k => pm_sti L st k.val
  | .istore k => pm_sti L st k
  | .lstore_n k => pm_stl L st k.val
  | .lstore k => pm_stl L st k
  | .astore_n k => pm_sta L st k.val
  | .astore k => pm_sta L st k
  | .iinc k n => match L[k]? with
    | some (.int x) => match pm_st1 L k (.int (x + Int32.ofInt n)) with | some L' => some (L', st) | none => none
    | _ => none
  | _ => none

def pm_rel (c : Jvm.ClassFile.Cond) (x y : Int32) : Bool := match c with
  | .eq => decide (x = y)
  | .ne => decide (¬ x = y)
  | .lt => decide (x < y)
  | .ge => decide (y ≤ x)
  | .gt => decide (y < x)
  | .le => decide (x ≤ y)
def pm_br (i : Instr) (st : List Value) : Option (Bool × List Value) := match i with
  | .ifCond c _ => match st with | .int x :: st => some (pm_rel c x 0, st) | _ => none
  | .if_icmp c _ => match st with | .int y :: .int x :: st => some (pm_rel c x y, st) | _ => none
  | .ifnull _ => match st with
    | .null :: st => some (true, st)
    | .ref _ :: st => some (false, st)
    | _ => none
  | .ifnonnull _ => match st with
    | .null :: st => some (false, st)
    | .ref _ :: st => some (true, st)
    | _ => none
  | .goto _ => some (true, st)
  | _ => none
def pm_to (pc : Nat) (off : Int) : Option Nat := if 0 ≤ (pc : Int) + off then some ((pc : Int) + off).toNat else none
def pm_sw (i : Instr) (st : List Value) : Option (Int × List Value) := match i with
  | .tableswitch d lo hi offs => match st with
    | .int x :: st => if x.toInt < lo ∨ hi < x.toInt then some (d, st) else match offs[(x.toInt - lo).toNat]? with | some o => some (o, st) | none => none
    | _ => none
  | .lookupswitch d ps => match st with
    | .int x :: st => if (ps.toList.zip (ps.toList.drop 1)).all (fun (a, next) => a.1 < next.1) = true then some (Op.lookupswitch.offset ps.toList d x.toInt, st) else none
    | _ => none
  | _ => none
def pm_rok (t : Option FieldType) (x : Int32) : Bool := match t with
  | some .int => true
  | some .boolean => x == 0 || x == 1
  | _ => false
def pm_rr (t : Option FieldType) : Bool := match t with
  | some (.object _) => true
  | some (.array _) => true
  | _ => false
def pm_ok (ty : FieldType) (v : Value) : Bool := match ty, v with
  | .int, .int _ => true
  | .long, .long _ => true
  | .boolean, .int x => x == 0 || x == 1
  | .object _, .null => true
  | .object _, .ref _ => true
  | .array _, .null => true
  | .array _, .ref _ => true
  | _, _ => false
def pm_ans (m : Nat) (i : Instr) (st : List Value) : Option (Option Value) := match i with
  | .ireturn => match st with | [.int x] => if pm_rok (pm_rt m) x = true then some (some (.int x)) else none | _ => none
  | .lreturn => match st with | [.long x] => if pm_rt m = some .long then some (some (.long x)) else none | _ => none
  | .areturn => match st with
    | [.ref x] => if pm_rr (pm_rt m) = true then some (some (.ref x)) else none
    | [.null] => if pm_rr (pm_rt m) = true then some (some .null) else none
    | _ => none
  | .return_ => match st with | [] => if pm_rt m = none then some none else none | _ => none
  | _ => none

def pm_ix (i : Int32) (n : Nat) : Option Nat := if i < 0 ∨ n ≤ i.toNatClampNeg then none else some i.toNatClampNeg
def pm_rv : Option Nat → Value
  | some a => .ref a
  | none => .null
abbrev pm_R : Type := Option (List Value × pm_H)
def pm_hget (m idx : Nat) (st : List Value) (h : pm_H) : pm_R := match pm_fld (pm_own m) idx with
  | none => none
  | some (c, k) => match st with
    | .ref a :: st => match h.1[a]? with
      | some (.inr (.inr (c', fs))) => match fs[k]? with
        | some v => if c' = c then some (v :: st, h) else none
        | none => none
      | _ => none
    | _ => none
def pm_hput (m idx : Nat) (st : List Value) (h : pm_H) : pm_R := match pm_fld (pm_own m) idx with
  | none => none
  | some (c, k) => match st with
    | v :: .ref a :: st => match h.1[a]? with
      | some (.inr (.inr (c', fs))) =>
        if c' = c ∧ k < fs.length ∧ pm_ok (pm_fty c k) v = true ∧ (pm_fin c k = false ∨ (pm_init m = true ∧ pm_own m = c)) then some (st, (h.1.set a (.inr (.inr (c', fs.set k v))), h.2)) else none
      | _ => none
    | _ => none
def pm_hiald (st : List Value) (h : pm_H) (xs : List Int32) : pm_R := match st with
  | .int j :: .ref a :: st => match h.1[a]? with
    | some (.inl (false, ys)) => match pm_ix j ys.length with | some k => some (.int (ys.getD k 0) :: st, h) | none => none
    | _ => none
  | .int j :: .retAddr 1 :: st => match pm_ix j xs.length with | some k => some (.int (xs.getD k 0) :: st, h) | none => none
  | _ => none
def pm_hiast (st : List Value) (h : pm_H) : pm_R := match st with
  | .int v :: .int j :: .ref a :: st => match h.1[a]? with
    | some (.inl (false, ys)) => match pm_ix j ys.length with | some k => some (st, (h.1.set a (.inl (false, ys.set k v)), h.2)) | none => none
    | _ => none
  | _ => none
def pm_hbald (st : List Value) (h : pm_H) : pm_R := match st with
  | .int j :: .ref a :: st => match h.1[a]? with
    | some (.inl (true, ys)) => match pm_ix j ys.length with | some k => some (.int (ys.getD k 0) :: st, h) | none => none
    | _ => none
  | _ => none
def pm_hbast (st : List Value) (h : pm_H) : pm_R := match st with
  | .int v :: .int j :: .ref a :: st => match h.1[a]? with
    | some (.inl (true, ys)) => match pm_ix j ys.length with | some k => if (v == 0 || v == 1) = true then some (st, (h.1.set a (.inl (true, ys.set k v)), h.2)) else none | none => none
    | _ => none
  | _ => none
def pm_haald (st : List Value) (h : pm_H) : pm_R := match st with
  | .int j :: .ref a :: st => match h.1[a]? with
    | some (.inr (.inl (t, rs))) => match pm_ix j rs.length with | some k => if t ∈ pm_ra then some (pm_rv (rs.getD k none) :: st, h) else none | none => none
    | _ => none
  | _ => none
def pm_haast (st : List Value) (h : pm_H) : pm_R := match st with
  | .ref v :: .int j :: .ref a :: st => match h.1[a]? with
    | some (.inr (.inl (t, rs))) => match h.1[v]? with
      | some (.inr (.inr (c, _))) => match pm_ix j rs.length with | some k => if c = t ∧ t ∈ pm_ra then some (st, (h.1.set a (.inr (.inl (t, rs.set k (some v)))), h.2)) else none | none => none
      | _ => none
    | _ => none
  | .null :: .int j :: .ref a :: st => match h.1[a]? with
    | some (.inr (.inl (t, rs))) => match pm_ix j rs.length with | some k => if t ∈ pm_ra then some (st, (h.1.set a (.inr (.inl (t, rs.set k none))), h.2)) else none | none => none
    | _ => none
  | _ => none
def pm_halen (st : List Value) (h : pm_H) (xs : List Int32) : pm_R := match st with
  | .ref a :: st => match h.1[a]? with
    | some (.inl (false, ys)) => some (.int (Int32.ofNat ys.length) :: st, h)
    | some (.inr (.inl (t, rs))) => if t ∈ pm_ra then some (.int (Int32.ofNat rs.length) :: st, h) else none
    | _ => none
  | .retAddr 1 :: st => some (.int (Int32.ofNat xs.length) :: st, h)
  | _ => none
def pm_hnew (m idx : Nat) (st : List Value) (h : pm_H) : pm_R := match pm_new (pm_own m) idx with
  | some q => some (.ref h.1.length :: st, (h.1 ++ [.inr (.inr q)], h.2 + q.2.length))
  | none => none
def pm_hnewa (z : Bool) (st : List Value) (h : pm_H) : pm_R := match st with
  | .int n :: st => if n < 0 ∨ 65536 < n.toNatClampNeg then none else some (.ref h.1.length :: st, (h.1 ++ [.inl (z, List.replicate n.toNatClampNeg 0)], h.2 + n.toNatClampNeg))
  | _ => none
def pm_hanew (m idx : Nat) (st : List Value) (h : pm_H) : pm_R := match pm_anew (pm_own m) idx with
  | none => none
  | some t => match st with
    | .int n :: st => if n < 0 ∨ 65536 < n.toNatClampNeg then none else some (.ref h.1.length :: st, (h.1 ++ [.inr (.inl (t, List.replicate n.toNatClampNeg none))], h.2 + n.toNatClampNeg))
    | _ => none
def pm_hcon (v : Option Value) (st : List Value) (h : pm_H) : pm_R := match v with
  | some v => some (v :: st, h)
  | none => none
def pm_sm (st : List Value) : Bool := decide ((st.map fun v => v.category).sum ≤ 8)
def pm_hobj (m idx : Nat) (st : List Value) (h : pm_H) : pm_R := match st with
  | .ref _ :: st => if pm_lib (pm_own m) idx = 1 ∧ pm_sm st = true then some (st, h) else none
  | _ => none
def pm_hmax (m idx : Nat) (st : List Value) (h : pm_H) : pm_R := match st with
  | .int y :: .int x :: st =>
    if pm_lib (pm_own m) idx = 2 ∧ pm_sm st = true then some (.int (if x < y then y else x) :: st, h)
    else if pm_lib (pm_own m) idx = 3 ∧ pm_sm st = true then some (.int (if y < x then y else x) :: st, h) else none
  | _ => none
def pm_hclone (m idx : Nat) (st : List Value) (h : pm_H) : pm_R := match st with
  | .ref a :: st => match h.1[a]? with
    | some (.inl (false, ys)) => if pm_lib (pm_own m) idx = 4 ∧ pm_sm st = true then some (.ref h.1.length :: st, (h.1 ++ [.inl (false, ys)], h.2 + ys.length)) else none
    | _ => none
  | _ => none
def pm_hcast (m idx : Nat) (st : List Value) (h : pm_H) : pm_R := match st with
  | .ref a :: st => match h.1[a]? with
    | some (.inl (false, _)) => if pm_lib (pm_own m) idx = 5 then some (.ref a :: st, h) else none
    | _ => none
  | _ => none
def pm_hp (m : Nat) (i : Instr) (st : List Value) (h : pm_H) (xs : List Int32) : pm_R := match i with
  | .getfield idx => pm_hget m idx st h
  | .putfield idx => pm_hput m idx st h
  | .iaload => pm_hiald st h xs
  | .iastore => pm_hiast st h
  | .aaload => pm_haald st h
  | .aastore => pm_haast st h
  | .arraylength => pm_halen st h xs
  | .new idx => pm_hnew m idx st h
  | .newarray .int => pm_hnewa false st h
  | .newarray .boolean => pm_hnewa true st h
  | .baload => pm_hbald st h
  | .bastore => pm_hbast st h
  | .anewarray idx => pm_hanew m idx st h
  | .ldc idx => pm_hcon (pm_con (pm_own m) idx) st h
  | .ldc2_w idx => pm_hcon (pm_con2 (pm_own m) idx) st h
  | .checkcast idx => pm_hcast m idx st h
  | .invokespecial idx => pm_hobj m idx st h
  | .invokestatic idx => pm_hmax m idx st h
  | .invokevirtual idx => pm_hclone m idx st h
  | _ => none

def pm_sl : List Value → List Value
  | [] => []
  | v :: vs => if v.category = 2 then v :: pm_none :: pm_sl vs else v :: pm_sl vs
def pm_pop : Nat → List Value → List Value → Option (List Value × List Value)
  | 0, as, st => some (as, st)
  | n + 1, as, v :: st => pm_pop n (v :: as) st
  | _ + 1, _, [] => none
def pm_cidx : Instr → Option (Nat × Nat)
  | .invokestatic i => some (i, 0)
  | .invokevirtual i => some (i, 1)
  | .invokespecial i => some (i, 2)
  | _ => none
def pm_chk8 (m' : Nat) (as st : List Value) : Option (Nat × List Value × List Value) := if pm_sm st = true ∧ (pm_sl as).length ≤ pm_maxL m' then some (m', as, st) else none
def pm_recv (m' : Nat) (as st : List Value) (h : pm_H) : Option (Nat × List Value × List Value) := match st with
  | .ref a :: st => match h.1[a]? with
    | some (.inr (.inr (c, _))) => if c = pm_own m' then pm_chk8 m' (.ref a :: as) st else none
    | _ => none
  | _ => none
def pm_call (m : Nat) (i : Instr) (st : List Value) (h : pm_H) : Option (Nat × List Value × List Value) := match pm_cidx i with
  | none => none
  | some (idx, kd) => match pm_inv (pm_own m) idx with
    | none => none
    | some (m', n, kind) => if kind = kd then (match pm_pop n [] st with
      | none => none
      | some (as, st) => match kd with
        | 0 => pm_chk8 m' as st
        | _ => pm_recv m' as st h) else none
def pm_entry (vs : List Value) (n : Nat) : List Value := pm_sl vs ++ List.replicate (n - (pm_sl vs).length) pm_none

def pm_step (m : Nat) (i : Instr) (pc nx : Nat) (L st : List Value) (h : pm_H) (xs : List Int32) : Option (Nat × List Value × List Value × pm_H) :=
  match pm_ts i L st with
  | some st' => some (nx, L, st', h)
  | none => match pm_tl i L st with
    | some (L', st') => some (nx, L', st', h)
    | none => match pm_hp m i st h xs with
      | some (st', h') => some (nx, L, st', h')
      | none => match pm_sw i st with
        | some (off, st') => match pm_to pc off with | some t => some (t, L, st', h) | none => none
        | none => none
def pm_run (xs : List Int32) : Nat → Nat → Nat → Nat → List Value → List Value → pm_H → Option (Option Value × pm_H)
  | 0, _, _, _, _, _, _ => none
  | n + 1, d, m, pc, L, st, h => match pm_ins m pc with
    | none => none
    | some (i, nx, tg) => match pm_ans m i st with
      | some v => some (v, h)
      | none => match pm_br i st with
        | some (c, st') => if c = true then pm_run xs n d m tg L st' h else pm_run xs n d m nx L st' h
        | none => match pm_call m i st h with
          | some (m', as, st') => match d with
            | 0 => none
            | d' + 1 => match pm_run xs n d' m' 0 (pm_entry as (pm_maxL m')) [] h with
              | none => none
              | some (v, h') => pm_run xs n (d' + 1) m nx L (v.toList ++ st') h'
          | none => match pm_step m i pc nx L st h xs with
            | none => none
            | some (pc', L', st', h') => pm_run xs n d m pc' L' st' h'
theorem pm_run_le {xs : List Int32} : ∀ {n k d m pc : Nat} {L st : List Value} {h : pm_H} {r : Option Value × pm_H}, n ≤ k → pm_run xs n d m pc L st h = some r → pm_run xs k d m pc L st h = some r := by
  intro n
  induction n with
  | zero => intro k d m pc L st h r _ e; simp [pm_run] at e
  | succ n ih =>
    intro k d m pc L st h r hk e
    obtain ⟨k, rfl⟩ : ∃ j, k = j + 1 := ⟨k - 1, by omega⟩
    have hk : n ≤ k := by omega
    unfold pm_run at e ⊢
    cases h1 : pm_ins m pc with
    | none => simp [h1] at e
    | some q0 =>
      obtain ⟨i, nx, tg⟩ := q0
      simp only [h1] at e ⊢
      cases h2 : pm_ans m i st with
      | some v => simpa only [h2] using e
      | none =>
        simp only [h2] at e ⊢
        cases h3 : pm_br i st with
        | some q =>
          obtain ⟨c, st'⟩ := q
          simp only [h3] at e ⊢
          by_cases hc : c = true
          · rw [if_pos hc] at e ⊢; exact ih hk e
          · rw [if_neg hc] at e ⊢; exact ih hk e
        | none =>
          simp only [h3] at e ⊢
          cases h4 : pm_call m i st h with
          | some q =>
            obtain ⟨m', as, st'⟩ := q
            simp only [h4] at e ⊢
            cases d with
            | zero => simp at e
            | succ d' =>
              simp only at e ⊢
              cases h5 : pm_run xs n d' m' 0 (pm_entry as (pm_maxL m')) [] h with
              | none => simp [h5] at e
              | some q =>
                obtain ⟨v, h'⟩ := q
                rw [ih hk h5]
                simp only [h5] at e ⊢
                exact ih hk e
          | none =>
            simp only [h4] at e ⊢
            cases h5 : pm_step m i pc nx L st h xs with
            | none => simp [h5] at e
            | some q =>
              obtain ⟨pc', L', st', h'⟩ := q
              simp only [h5] at e ⊢
              exact ih hk e
