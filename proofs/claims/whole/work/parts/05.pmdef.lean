/-! THE PICTURE MACHINE: the same bytecode, run over a picture of the heap: a cell is its place (1, 2, .. in the order of making; 0 is the script), its ints and its references are rows of functions. -/
/-- ints, references (0: null), kinds (below 10: an array; 10 + c: an object of class c), lengths, how many cells, how many slots -/
abbrev pm_S : Type := (Nat → Nat → Int32) × (Nat → Nat → Nat) × (Nat → Nat) × (Nat → Nat) × Nat × Nat
abbrev pm_L : Type := List (Option Value)
/-- the script: its length and its ints; only the law's own frame has it -/
abbrev pm_X : Type := Option (Nat × (Nat → Int32))
abbrev pm_R : Type := Option (Option Value × pm_S)
abbrev pm_O : Type := Nat → List Value → pm_S → pm_R
abbrev pm_N : Type := Option (Nat × pm_L × List Value × pm_S)
def pm_u {α : Type} (f : Nat → α) (p : Nat) (v : α) : Nat → α := fun q => if q = p then v else f q
theorem pm_us {α : Type} (f : Nat → α) (p : Nat) (v : α) : pm_u f p v p = v := by simp [pm_u]
theorem pm_un {α : Type} (f : Nat → α) {p q : Nat} (v : α) (h : q ≠ p) : pm_u f p v q = f q := by simp [pm_u, h]
def pm_ld (ls : pm_L) (i : Nat) : Option Value := match ls[i]? with
  | some (some (.int x)) => some (.int x)
  | some (some (.ref x)) => some (.ref x)
  | _ => none
def pm_vc (v : Value) : Bool := match v with
  | .int _ => true
  | .ref _ => true
  | .null => true
  | _ => false
def pm_bin (i : Jvm.ClassFile.Instr) (x y : Int32) : Option Int32 := match i with
  | .iadd => some (x + y)
  | .isub => some (x - y)
  | .imul => some (x * y)
  | .iand => some (x &&& y)
  | .ior => some (x ||| y)
  | .ixor => some (x ^^^ y)
  | .ishl => some (x <<< (y &&& 31))
  | .ishr => some (x >>> (y &&& 31))
  | .iushr => some ((x.toUInt32 >>> (y.toUInt32 &&& Int32.toUInt32 31)).toInt32)
  | .idiv => if y = 0 then none else some (x / y)
  | .irem => if y = 0 then none else some (x - x / y * y)
  | _ => none
def pm_cmp (c : Jvm.ClassFile.Cond) (x y : Int32) : Bool := match c with
  | .eq => decide (x = y)
  | .ne => !decide (x = y)
  | .lt => decide (x < y)
  | .ge => decide (y ≤ x)
  | .gt => decide (y < x)
  | .le => decide (x ≤ y)
def pm_tgt (pc : Nat) (off : Int) : Nat := ((pc : Int) + off).toNat
def pm_tok (pc : Nat) (off : Int) : Bool := decide (0 ≤ (pc : Int) + off)
/-- a reference field's value -/
def pm_rv (r : Nat) : Value := if r = 0 then .null else .ref r
/-- where a value of that kind of field may go in: an int's (0), a boolean's (1) -/
def pm_fi (k : Nat) (x : Int32) : Bool := match k with
  | 0 => true
  | 1 => decide (x = 0) || decide (x = 1)
  | _ => false
def pm_inb (i : Int32) (n : Nat) : Bool := decide (¬ i < 0) && decide (i.toNatClampNeg < n)
/-- the stack alone -/
def pm_stk (i : Jvm.ClassFile.Instr) (st : List Value) : Option (List Value) := match i with
  | .iconst k => some (.int (Int32.ofInt k) :: st)
  | .dup => match st with
    | a :: st => if pm_vc a then some (a :: a :: st) else none
    | _ => none
  | .pop => match st with
    | a :: st => if pm_vc a then some st else none
    | _ => none
  | .dup_x1 => match st with
    | a :: b :: st => if pm_vc a && pm_vc b then some (a :: b :: a :: st) else none
    | _ => none
  | .dup_x2 => match st with
    | a :: b :: d :: st => if pm_vc a && (pm_vc b && pm_vc d) then some (a :: b :: d :: a :: st) else none
    | _ => none
  | .dup2 => match st with
    | a :: b :: st => if pm_vc a && pm_vc b then some (a :: b :: a :: b :: st) else none
    | _ => none
  | .ineg => match st with
    | .int x :: st => some (.int (-x) :: st)
    | _ => none
  | .i2c => match st with
    | .int x :: st => some (.int ((x.toUInt32 % 65536).toInt32) :: st)
    | _ => none
  | .aconst_null => some (.null :: st)
  | _ => match st with
    | .int y :: .int x :: st => match pm_bin i x y with
      | some z => some (.int z :: st)
      | none => none
    | _ => none
/-- a jump: where to, and the stack behind it -/
def pm_jmp (pc len : Nat) (i : Jvm.ClassFile.Instr) (st : List Value) : Option (Nat × List Value) := match i with
  | .ifCond c off => match st with
    | .int x :: st => if len = 3 && pm_tok pc off then some (if pm_cmp c x 0 then (pm_tgt pc off, st) else (pc + 3, st)) else none
    | _ => none
  | .if_icmp c off => match st with
    | .int y :: .int x :: st => if len = 3 && pm_tok pc off then some (if pm_cmp c x y then (pm_tgt pc off, st) else (pc + 3, st)) else none
    | _ => none
  | .goto off => if len = 3 && pm_tok pc off then some (pm_tgt pc off, st) else none
  | .tableswitch dflt lo hi offs => match st with
    | .int x :: st => if decide (x.toInt < lo) || decide (hi < x.toInt) then (if pm_tok pc dflt then some (pm_tgt pc dflt, st) else none) else (match offs[(x.toInt - lo).toNat]? with
      | some off => if pm_tok pc off then some (pm_tgt pc off, st) else none
      | none => none)
    | _ => none
  | .lookupswitch dflt ps => match st with
    | .int x :: st => if (ps.toList.zip (ps.toList.drop 1)).all (fun (a, next) => a.1 < next.1) && pm_tok pc (Op.lookupswitch.offset ps.toList dflt x.toInt) then some (pm_tgt pc (Op.lookupswitch.offset ps.toList dflt x.toInt), st) else none
    | _ => none
  | _ => none
/-- a local that is written: which, with what, and the stack behind it -/
def pm_loc (i : Jvm.ClassFile.Instr) (ls : pm_L) (st : List Value) : Option (Nat × Value × List Value) := match i with
  | .istore k => match st with
    | .int x :: st => some (k, .int x, st)
    | _ => none
  | .istore_n k => match st with
    | .int x :: st => some (k.val, .int x, st)
    | _ => none
  | .astore k => match st with
    | .ref x :: st => some (k, .ref x, st)
    | _ => none
  | .astore_n k => match st with
    | .ref x :: st => some (k.val, .ref x, st)
    | _ => none
  | .iinc k n => match pm_ld ls k with
    | some (.int x) => some (k, .int (x + Int32.ofInt n), st)
    | _ => none
  | _ => none
/-- what is pushed: locals, constants, fields, elements, lengths -/
def pm_rd (X : pm_X) (o : Nat) (i : Jvm.ClassFile.Instr) (ls : pm_L) (st : List Value) (σ : pm_S) : Option (Value × List Value) := match i with
  | .bipush k => some (.int (Int8.ofInt k).toInt32, st)
  | .sipush k => some (.int (Int16.ofInt k).toInt32, st)
  | .ldc k => match pm_ldc o k with
    | some v => some (.int v, st)
    | none => none
  | .iload k => match pm_ld ls k with
    | some (.int x) => some (.int x, st)
    | _ => none
  | .iload_n k => match pm_ld ls k.val with
    | some (.int x) => some (.int x, st)
    | _ => none
  | .aload k => match pm_ld ls k with
    | some (.ref x) => some (.ref x, st)
    | _ => none
  | .aload_n k => match pm_ld ls k.val with
    | some (.ref x) => some (.ref x, st)
    | _ => none
  | .getfield k => match st with
    | .ref p :: st => match pm_fld o k with
      | some (c, f) => if decide (1 ≤ p) && (decide (p ≤ σ.2.2.2.2.1) && decide (σ.2.2.1 p = 10 + c)) then some (if pm_fk c f = 3 then pm_rv (σ.2.1 p f) else .int (σ.1 p f), st) else none
      | none => none
    | _ => none
  | .iaload => match st with
    | .int j :: .ref p :: st => if p = 0 then (match X with
      | some x => if pm_inb j x.1 then some (.int (x.2 j.toNatClampNeg), st) else none
      | none => none) else if decide (p ≤ σ.2.2.2.2.1) && (decide (σ.2.2.1 p = 0) && pm_inb j (σ.2.2.2.1 p)) then some (.int (σ.1 p j.toNatClampNeg), st) else none
    | _ => none
  | .caload => match st with
    | .int j :: .ref p :: st => if decide (1 ≤ p) && (decide (p ≤ σ.2.2.2.2.1) && (decide (σ.2.2.1 p = 1) && pm_inb j (σ.2.2.2.1 p))) then some (.int (σ.1 p j.toNatClampNeg), st) else none
    | _ => none
  | .baload => match st with
    | .int j :: .ref p :: st => if decide (1 ≤ p) && (decide (p ≤ σ.2.2.2.2.1) && (decide (σ.2.2.1 p = 2) && pm_inb j (σ.2.2.2.1 p))) then some (.int (σ.1 p j.toNatClampNeg), st) else none
    | _ => none
  | .aaload => match st with
    | .int j :: .ref p :: st => if decide (1 ≤ p) && (decide (p ≤ σ.2.2.2.2.1) && (decide (σ.2.2.1 p = 3) && pm_inb j (σ.2.2.2.1 p))) then some (pm_rv (σ.2.1 p j.toNatClampNeg), st) else none
    | _ => none
  | .arraylength => match st with
    | .ref p :: st => if p = 0 then (match X with
      | some x => some (.int (Int32.ofNat x.1), st)
      | none => none) else if decide (p ≤ σ.2.2.2.2.1) && decide (σ.2.2.1 p < pm_nk) then some (.int (Int32.ofNat (σ.2.2.2.1 p)), st) else none
    | _ => none
  | _ => none
/-- a cell that is written: the picture and the stack behind it -/
def pm_wr (o kd : Nat) (i : Jvm.ClassFile.Instr) (st : List Value) (σ : pm_S) : Option (pm_S × List Value) := match i with
  | .putfield k => match st with
    | .int x :: .ref p :: st => match pm_fld o k with
      | some (c, f) => if decide (1 ≤ p) && (decide (p ≤ σ.2.2.2.2.1) && (decide (σ.2.2.1 p = 10 + c) && (pm_fi (pm_fk c f) x && (!pm_fin c f || (decide (kd = 2) && pm_own o c))))) then some ((pm_u σ.1 p (upd (σ.1 p) f x), σ.2), st) else none
      | none => none
    | .ref x :: .ref p :: st => match pm_fld o k with
      | some (c, f) => if decide (1 ≤ p) && (decide (p ≤ σ.2.2.2.2.1) && (decide (σ.2.2.1 p = 10 + c) && (decide (1 ≤ x) && (decide (pm_fk c f = 3) && (!pm_fin c f || (decide (kd = 2) && pm_own o c)))))) then some ((σ.1, pm_u σ.2.1 p (pm_u (σ.2.1 p) f x), σ.2.2), st) else none
      | none => none
    | _ => none
  | .iastore => match st with
    | .int x :: .int j :: .ref p :: st => if decide (1 ≤ p) && (decide (p ≤ σ.2.2.2.2.1) && (decide (σ.2.2.1 p = 0) && pm_inb j (σ.2.2.2.1 p))) then some ((pm_u σ.1 p (upd (σ.1 p) j.toNatClampNeg x), σ.2), st) else none
    | _ => none
  | .castore => match st with
    | .int x :: .int j :: .ref p :: st => if decide (1 ≤ p) && (decide (p ≤ σ.2.2.2.2.1) && (decide (σ.2.2.1 p = 1) && pm_inb j (σ.2.2.2.1 p))) then some ((pm_u σ.1 p (upd (σ.1 p) j.toNatClampNeg (vp_nar .char x)), σ.2), st) else none
    | _ => none
  | .bastore => match st with
    | .int x :: .int j :: .ref p :: st => if decide (1 ≤ p) && (decide (p ≤ σ.2.2.2.2.1) && (decide (σ.2.2.1 p = 2) && pm_inb j (σ.2.2.2.1 p))) then some ((pm_u σ.1 p (upd (σ.1 p) j.toNatClampNeg (vp_nar .boolean x)), σ.2), st) else none
    | _ => none
  | .aastore => match st with
    | .ref x :: .int j :: .ref p :: st => if decide (1 ≤ p) && (decide (p ≤ σ.2.2.2.2.1) && (decide (σ.2.2.1 p = 3) && (pm_inb j (σ.2.2.2.1 p) && (decide (1 ≤ x) && (decide (x ≤ σ.2.2.2.2.1) && decide (σ.2.2.1 x = 10 + pm_qc)))))) then some ((σ.1, pm_u σ.2.1 p (pm_u (σ.2.1 p) j.toNatClampNeg x), σ.2.2), st) else none
    | _ => none
  | _ => none
/-- a cell that is made: its kind, its length (an object: 0), its slots, the stack behind it -/
def pm_mk (o : Nat) (i : Jvm.ClassFile.Instr) (st : List Value) : Option (Nat × Nat × Nat × List Value) := match i with
  | .new k => match pm_new o k with
    | some c => some (10 + c, 0, pm_nf c, st)
    | none => none
  | .newarray .int => match st with
    | .int n :: st => if decide (¬ n < 0) && decide (n.toNatClampNeg ≤ 100000) then some (0, n.toNatClampNeg, n.toNatClampNeg, st) else none
    | _ => none
  | .newarray .char => match st with
    | .int n :: st => if decide (¬ n < 0) && decide (n.toNatClampNeg ≤ 100000) then some (1, n.toNatClampNeg, n.toNatClampNeg, st) else none
    | _ => none
  | .newarray .boolean => match st with
    | .int n :: st => if decide (¬ n < 0) && decide (n.toNatClampNeg ≤ 100000) then some (2, n.toNatClampNeg, n.toNatClampNeg, st) else none
    | _ => none
  | .anewarray k => match st with
    | .int n :: st => if pm_anw o k && (decide (¬ n < 0) && decide (n.toNatClampNeg ≤ 100000)) then some (3, n.toNatClampNeg, n.toNatClampNeg, st) else none
    | _ => none
  | _ => none
/-- the picture behind a making -/
def pm_mkS (σ : pm_S) (k len sl : Nat) : pm_S := (pm_u σ.1 (σ.2.2.2.2.1 + 1) (fun _ => 0), pm_u σ.2.1 (σ.2.2.2.2.1 + 1) (fun _ => 0), pm_u σ.2.2.1 (σ.2.2.2.2.1 + 1) k, pm_u σ.2.2.2.1 (σ.2.2.2.2.1 + 1) len, σ.2.2.2.2.1 + 1, σ.2.2.2.2.2 + sl)
def pm_len (i : Jvm.ClassFile.Instr) : Nat := match i with
  | .bipush _ => 2
  | .sipush _ => 3
  | .ldc _ => 2
  | .iload _ => 2
  | .aload _ => 2
  | .istore _ => 2
  | .astore _ => 2
  | .iinc _ _ => 3
  | .getfield _ => 3
  | .putfield _ => 3
  | .new _ => 3
  | .newarray _ => 2
  | .anewarray _ => 3
  | .invokevirtual _ => 3
  | .invokespecial _ => 3
  | .invokestatic _ => 3
  | _ => 1
/-- the methods of the JDK that the machine knows by itself: Object() (1), Math.min (2), System.arraycopy of ints (3) -/
def pm_jdk (o : Nat) (i : Jvm.ClassFile.Instr) (st : List Value) (σ : pm_S) : Option (pm_S × List Value) := match i with
  | .invokespecial k => if pm_bi o k = 1 then (match st with
    | .ref _ :: st => if decide (st.length ≤ 8) && st.all pm_vc then some (σ, st) else none
    | _ => none) else none
  | .invokestatic k => if pm_bi o k = 2 then (match st with
    | .int y :: .int x :: st => if decide (st.length ≤ 8) && st.all pm_vc then some (σ, .int (if y < x then y else x) :: st) else none
    | _ => none) else if pm_bi o k = 3 then (match st with
    | .int n :: .int dp :: .ref q :: .int sp :: .ref p :: st => if decide (st.length ≤ 8) && (st.all pm_vc && (decide (1 ≤ p) && (decide (p ≤ σ.2.2.2.2.1) && (decide (σ.2.2.1 p = 0) && (decide (1 ≤ q) && (decide (q ≤ σ.2.2.2.2.1) && (decide (σ.2.2.1 q = 0) && (decide (¬ sp < 0) && (decide (¬ dp < 0) && (decide (¬ n < 0) && (decide (sp.toNatClampNeg + n.toNatClampNeg ≤ σ.2.2.2.1 p) && decide (dp.toNatClampNeg + n.toNatClampNeg ≤ σ.2.2.2.1 q)))))))))))) then some ((pm_u σ.1 q (va_cpy (σ.1 p) (σ.1 q) sp.toNatClampNeg dp.toNatClampNeg n.toNatClampNeg), σ.2), st) else none
    | _ => none) else none
  | _ => none
/-- one instruction that is neither a call of a method nor a return -/
def pm_step (X : pm_X) (o kd pc len : Nat) (i : Jvm.ClassFile.Instr) (ls : pm_L) (st : List Value) (σ : pm_S) : pm_N :=
  match pm_jmp pc len i st with
  | some (t, st') => some (t, ls, st', σ)
  | none => if len = pm_len i then (match pm_rd X o i ls st σ with
    | some (v, st') => some (pc + pm_len i, ls, v :: st', σ)
    | none => match pm_loc i ls st with
      | some (k, v, st') => if k < ls.length then some (pc + pm_len i, ls.set k (some v), st', σ) else none
      | none => match pm_wr o kd i st σ with
        | some (σ', st') => some (pc + pm_len i, ls, st', σ')
        | none => match pm_mk o i st with
          | some (k, n, sl, st') => some (pc + pm_len i, ls, .ref (σ.2.2.2.2.1 + 1) :: st', pm_mkS σ k n sl)
          | none => match pm_jdk o i st σ with
            | some (σ', st') => some (pc + pm_len i, ls, st', σ')
            | none => match pm_stk i st with
              | some st' => some (pc + pm_len i, ls, st', σ)
              | none => none) else none
/-- a call: which method, its arguments, the rest of the stack -/
def pm_inv (o : Nat) (i : Jvm.ClassFile.Instr) (st : List Value) (σ : pm_S) : Option (Nat × List Value × List Value) := match i with
  | .invokevirtual k => match pm_mth o k with
    | some j => match st.drop (pm_np j) with
      | .ref p :: rest => if decide (pm_kd j = 1) && (decide (pm_np j ≤ st.length) && (decide (1 ≤ p) && (decide (p ≤ σ.2.2.2.2.1) && (decide (σ.2.2.1 p = 10 + pm_mc j) && (decide (rest.length ≤ 8) && st.all pm_vc))))) then some (j, .ref p :: (st.take (pm_np j)).reverse, rest) else none
      | _ => none
    | none => none
  | .invokespecial k => match pm_mth o k with
    | some j => match st.drop (pm_np j) with
      | .ref p :: rest => if decide (pm_kd j = 2) && (decide (pm_np j ≤ st.length) && (decide (1 ≤ p) && (decide (rest.length ≤ 8) && st.all pm_vc))) then some (j, .ref p :: (st.take (pm_np j)).reverse, rest) else none
      | _ => none
    | none => none
  | .invokestatic k => match pm_mth o k with
    | some j => if decide (pm_kd j = 0) && (decide (pm_np j ≤ st.length) && (decide ((st.drop (pm_np j)).length ≤ 8) && st.all pm_vc)) then some (j, (st.take (pm_np j)).reverse, st.drop (pm_np j)) else none
    | none => none
  | _ => none
/-- a return: its answer -/
def pm_ret (rk : Nat) (i : Jvm.ClassFile.Instr) (st : List Value) : Option (Option Value) := match i with
  | .return_ => if rk = 0 then (match st with
    | [] => some none
    | _ => none) else none
  | .ireturn => if rk = 1 then (match st with
    | [.int x] => some (some (.int x))
    | _ => none) else if rk = 2 then (match st with
    | [.int x] => if decide (x = 0) || decide (x = 1) then some (some (.int x)) else none
    | _ => none) else if rk = 4 then (match st with
    | [.int x] => if decide (¬ x < 0) && decide (x ≤ 65535) then some (some (.int x)) else none
    | _ => none) else none
  | .areturn => if rk = 3 then (match st with
    | [.ref x] => some (some (.ref x))
    | _ => none) else none
  | _ => none
def pm_exec (X : pm_X) (C : pm_O) : Nat → Nat → Nat → pm_L → List Value → pm_S → pm_R
  | 0, _, _, _, _, _ => none
  | f + 1, mi, pc, ls, st, σ => match decode (pm_code mi) pc with
    | .ok (i, len) => match pm_ret (pm_rk mi) i st with
      | some r => if len = 1 then some (r, σ) else none
      | none => match pm_inv (pm_ow mi) i st σ with
        | some (j, as, rest) => if len = 3 then (match C j as σ with
          | some (r, σ') => pm_exec X C f mi (pc + 3) ls (r.toList ++ rest) σ'
          | none => none) else none
        | none => match pm_step X (pm_ow mi) (pm_kd mi) pc len i ls st σ with
          | some (pc', ls', st', σ') => pm_exec X C f mi pc' ls' st' σ'
          | none => none
    | .error _ => none
def pm_in (j : Nat) (as : List Value) : pm_L := as.map some ++ List.replicate (pm_max j - as.length) none
def pm_call (F : Nat) : Nat → pm_O
  | 0 => fun _ _ _ => none
  | d + 1 => fun j as σ => if decide (j < pm_cnt) && (decide (as.length ≤ pm_max j) && as.all pm_vc) then pm_exec none (pm_call F d) F j 0 (pm_in j as) [] σ else none
