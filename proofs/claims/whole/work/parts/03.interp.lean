/-! THE ABSTRACT INTERPRETER: the class's bytecode over a heap that is a list of cells; a reference is a cell's place in that list. -/
abbrev ai_C : Type := (Nat × vp_A) ⊕ (Nat × List Value)
abbrev ai_H : Type := List ai_C
abbrev ai_L : Type := List (Option Value)
abbrev ai_S : Type := List ai_R × ai_L × List Value × ai_H
abbrev ai_X : Type := Nat × (Nat → Int32)
abbrev ai_mC (M : ai_M) : Nat := M.1
abbrev ai_mY (M : ai_M) : MethodName := M.2.1
abbrev ai_mB (M : ai_M) : ByteArray := M.2.2.1
abbrev ai_mL (M : ai_M) : Nat := M.2.2.2.1
abbrev ai_mT (M : ai_M) : Option FieldType := M.2.2.2.2.1
abbrev ai_mN (M : ai_M) : Nat := M.2.2.2.2.2.1
abbrev ai_mF (M : ai_M) : Nat := M.2.2.2.2.2.2.1
abbrev ai_mO (M : ai_M) : Nat := M.2.2.2.2.2.2.2.1
abbrev ai_mK (M : ai_M) : Nat := M.2.2.2.2.2.2.2.2.2.2.2.1
abbrev ai_mR (M : ai_M) : List ai_R := M.2.2.2.2.2.2.2.2.2.2.2.2
def ai_is2 : Option Value → Bool
  | some (.long _) => true
  | some (.double _) => true
  | _ => false
/-- storing a value into the place i; 'two': it takes the next place too -/
def ai_st (two : Bool) (i : Nat) (v : Value) : Nat → ai_L → ai_L
  | _, [] => []
  | j, x :: t => (if j = i then some v else if two = true ∧ j = i + 1 then none else if j + 1 = i ∧ ai_is2 x = true then none else x) :: ai_st two i v (j + 1) t
def ai_fl : List Value → ai_L
  | [] => []
  | v :: t => if v.category = 2 then some v :: none :: ai_fl t else some v :: ai_fl t
def ai_loc (n : Nat) (vs : List Value) : ai_L := ai_fl vs ++ List.replicate (n - (ai_fl vs).length) none
/-- a jump: to the row at place a, if it is the target's -/
def ai_tg (K : List ai_R) (pc : Nat) (off : Int) (a : Nat) : Option (List ai_R) :=
  match K.drop a with
  | r :: rs => if (pc : Int) + off = (r.1 : Int) then some (r :: rs) else none
  | [] => none
def ai_tf (K : List ai_R) (pc : Nat) (off : Int) : Option (List ai_R) :=
  match K.dropWhile (fun r => !decide ((pc : Int) + off = (r.1 : Int))) with
  | r :: rs => if (pc : Int) + off = (r.1 : Int) then some (r :: rs) else none
  | [] => none
def ai_fit : FieldType → Value → Bool
  | .int, .int _ => true
  | .long, .long _ => true
  | .object _, .ref _ => true
  | .array _, .ref _ => true
  | _, _ => false
def ai_fty (c k : Nat) : Option FieldType := match ai_cl[c]? with
  | some q => if k < q.2.2 then parseFieldDescriptor (q.2.1 k).2.2.1 else none
  | none => none
def ai_ffin (c k : Nat) : Bool := match ai_cl[c]? with
  | some q => (q.2.1 k).2.2.2
  | none => true
/-- one of two roads -/
def ai_br (c : Prop) [Decidable c] (K : List ai_R) (r : ai_R) (off : Int) (rs : List ai_R) (ls : ai_L) (st : List Value) (h : ai_H) : Option ai_S :=
  match ai_tg K r.1 off r.2.2.2.2.1 with
  | some rt => if c then some (rt, ls, st, h) else some (rs, ls, st, h)
  | none => none
/-- the row at the head, where it neither calls, nor makes a cell, nor returns -/
def ai_stp (X : ai_X) (M : ai_M) (r : ai_R) (rs : List ai_R) (ls : ai_L) (st : List Value) (h : ai_H) : Option ai_S :=
  match r.2.1 with
  | .iconst n => some (rs, ls, .int (Int32.ofInt n) :: st, h)
  | .bipush n => some (rs, ls, .int (Int8.ofInt n).toInt32 :: st, h)
  | .sipush n => some (rs, ls, .int (Int16.ofInt n).toInt32 :: st, h)
  | .lconst n => some (rs, ls, .long (Int64.ofNat (n : Nat)) :: st, h)
  | .ldc _ => match r.2.2.2.1 with
    | .int v => some (rs, ls, .int v :: st, h)
    | .float v => if v.toNat < 11 then some (rs, ls, .float v :: st, h) else none
    | _ => none
  | .ldc_w _ => match r.2.2.2.1 with
    | .int v => some (rs, ls, .int v :: st, h)
    | _ => none
  | .ldc2_w _ => match r.2.2.2.1 with
    | .long v => some (rs, ls, .long v :: st, h)
    | _ => none
  | .iload_n i => match ls[(i : Nat)]? with
    | some (some (.int v)) => some (rs, ls, .int v :: st, h)
    | _ => none
  | .iload i => match ls[i]? with
    | some (some (.int v)) => some (rs, ls, .int v :: st, h)
    | _ => none
  | .lload_n i => match ls[(i : Nat)]? with
    | some (some (.long v)) => some (rs, ls, .long v :: st, h)
    | _ => none
  | .lload i => match ls[i]? with
    | some (some (.long v)) => some (rs, ls, .long v :: st, h)
    | _ => none
  | .aload_n i => match ls[(i : Nat)]? with
    | some (some (.ref v)) => some (rs, ls, .ref v :: st, h)
    | some (some (.float v)) => some (rs, ls, .float v :: st, h)
    | _ => none
  | .aload i => match ls[i]? with
    | some (some (.ref v)) => some (rs, ls, .ref v :: st, h)
    | some (some (.float v)) => some (rs, ls, .float v :: st, h)
    | _ => none
  | .istore_n i => match st with
    | .int v :: t => if (i : Nat) < ls.length then some (rs, ai_st false (i : Nat) (.int v) 0 ls, t, h) else none
    | _ => none
  | .istore i => match st with
    | .int v :: t => if i < ls.length then some (rs, ai_st false i (.int v) 0 ls, t, h) else none
    | _ => none
  | .lstore_n i => match st with
    | .long v :: t => if (i : Nat) + 1 < ls.length then some (rs, ai_st true (i : Nat) (.long v) 0 ls, t, h) else none
    | _ => none
  | .lstore i => match st with
    | .long v :: t => if i + 1 < ls.length then some (rs, ai_st true i (.long v) 0 ls, t, h) else none
    | _ => none
  | .astore_n i => match st with
    | .ref v :: t => if (i : Nat) < ls.length then some (rs, ai_st false (i : Nat) (.ref v) 0 ls, t, h) else none
    | _ => none
  | .astore i => match st with
    | .ref v :: t => if i < ls.length then some (rs, ai_st false i (.ref v) 0 ls, t, h) else none
    | _ => none
  | .iinc i n => match ls[i]? with
    | some (some (.int v)) => some (rs, ai_st false i (.int (v + Int32.ofInt n)) 0 ls, st, h)
    | _ => none
  | .iadd => match st with
    | .int y :: .int x :: t => some (rs, ls, .int (x + y) :: t, h)
    | _ => none
  | .isub => match st with
    | .int y :: .int x :: t => some (rs, ls, .int (x - y) :: t, h)
    | _ => none
  | .imul => match st with
    | .int y :: .int x :: t => some (rs, ls, .int (x * y) :: t, h)
    | _ => none
  | .iand => match st with
    | .int y :: .int x :: t => some (rs, ls, .int (x &&& y) :: t, h)
    | _ => none
  | .ior => match st with
    | .int y :: .int x :: t => some (rs, ls, .int (x ||| y) :: t, h)
    | _ => none
  | .ixor => match st with
    | .int y :: .int x :: t => some (rs, ls, .int (x ^^^ y) :: t, h)
    | _ => none
  | .idiv => match st with
    | .int y :: .int x :: t => if y = 0 then none else some (rs, ls, .int (x / y) :: t, h)
    | _ => none
  | .irem => match st with
    | .int y :: .int x :: t => if y = 0 then none else some (rs, ls, .int (x - x / y * y) :: t, h)
    | _ => none
  | .ishl => match st with
    | .int y :: .int x :: t => some (rs, ls, .int (x <<< (y &&& 31)) :: t, h)
    | _ => none
  | .ishr => match st with
    | .int y :: .int x :: t => some (rs, ls, .int (x >>> (y &&& 31)) :: t, h)
    | _ => none
  | .iushr => match st with
    | .int y :: .int x :: t => some (rs, ls, .int (x.toUInt32 >>> (y.toUInt32 &&& Int32.toUInt32 31)).toInt32 :: t, h)
    | _ => none
  | .ladd => match st with
    | .long y :: .long x :: t => some (rs, ls, .long (x + y) :: t, h)
    | _ => none
  | .lmul => match st with
    | .long y :: .long x :: t => some (rs, ls, .long (x * y) :: t, h)
    | _ => none
  | .land => match st with
    | .long y :: .long x :: t => some (rs, ls, .long (x &&& y) :: t, h)
    | _ => none
  | .lor => match st with
    | .long y :: .long x :: t => some (rs, ls, .long (x ||| y) :: t, h)
    | _ => none
  | .ldiv => match st with
    | .long y :: .long x :: t => if y = 0 then none else some (rs, ls, .long (x / y) :: t, h)
    | _ => none
  | .lrem => match st with
    | .long y :: .long x :: t => if y = 0 then none else some (rs, ls, .long (x - x / y * y) :: t, h)
    | _ => none
  | .lshl => match st with
    | .int y :: .long x :: t => some (rs, ls, .long (x <<< (y.toInt64 &&& 63)) :: t, h)
    | _ => none
  | .lushr => match st with
    | .int y :: .long x :: t => some (rs, ls, .long (x.toUInt64 >>> (y.toInt64.toUInt64 &&& Int64.toUInt64 63)).toInt64 :: t, h)
    | _ => none
  | .lcmp => match st with
    | .long y :: .long x :: t => some (rs, ls, .int (lg_cmp x y) :: t, h)
    | _ => none
  | .i2l => match st with
    | .int x :: t => some (rs, ls, .long x.toInt64 :: t, h)
    | _ => none
  | .l2i => match st with
    | .long x :: t => some (rs, ls, .int x.toInt32 :: t, h)
    | _ => none
  | .i2b => match st with
    | .int x :: t => some (rs, ls, .int x.toInt8.toInt32 :: t, h)
    | _ => none
  | .i2s => match st with
    | .int x :: t => some (rs, ls, .int x.toInt16.toInt32 :: t, h)
    | _ => none
  | .dup => match st with
    | .int x :: t => some (rs, ls, .int x :: .int x :: t, h)
    | .ref x :: t => some (rs, ls, .ref x :: .ref x :: t, h)
    | _ => none
  | .dup2 => match st with
    | .int y :: .ref x :: t => some (rs, ls, .int y :: .ref x :: .int y :: .ref x :: t, h)
    | _ => none
  | .pop => match st with
    | .int _ :: t => some (rs, ls, t, h)
    | _ => none
  | .pop2 => match st with
    | .long _ :: t => some (rs, ls, t, h)
    | _ => none
  | .goto off => match ai_tg (ai_mR M) r.1 off r.2.2.2.2.1 with
    | some rt => some (rt, ls, st, h)
    | none => none
  | .if_icmp c off => match st with
    | .int y :: .int x :: t => match c with
      | .eq => ai_br (x = y) (ai_mR M) r off rs ls t h
      | .ne => ai_br (¬ x = y) (ai_mR M) r off rs ls t h
      | .lt => ai_br (x < y) (ai_mR M) r off rs ls t h
      | .ge => ai_br (y ≤ x) (ai_mR M) r off rs ls t h
      | .gt => ai_br (y < x) (ai_mR M) r off rs ls t h
      | .le => ai_br (x ≤ y) (ai_mR M) r off rs ls t h
    | _ => none
  | .ifCond c off => match st with
    | .int x :: t => match c with
      | .eq => ai_br (x = 0) (ai_mR M) r off rs ls t h
      | .ne => ai_br (¬ x = 0) (ai_mR M) r off rs ls t h
      | .lt => ai_br (x < 0) (ai_mR M) r off rs ls t h
      | .ge => ai_br (0 ≤ x) (ai_mR M) r off rs ls t h
      | .gt => ai_br (0 < x) (ai_mR M) r off rs ls t h
      | .le => ai_br (x ≤ 0) (ai_mR M) r off rs ls t h
    | _ => none
  | .ifnull off => match st with
    | .ref _ :: t => some (rs, ls, t, h)
    | .null :: t => match ai_tg (ai_mR M) r.1 off r.2.2.2.2.1 with
      | some rt => some (rt, ls, t, h)
      | none => none
    | _ => none
  | .ifnonnull off => match st with
    | .null :: t => some (rs, ls, t, h)
    | .ref _ :: t => match ai_tg (ai_mR M) r.1 off r.2.2.2.2.1 with
      | some rt => some (rt, ls, t, h)
      | none => none
    | _ => none
  | .tableswitch dflt lo hi offs => match st with
    | .int x :: t => if x.toInt < lo ∨ hi < x.toInt then (match ai_tf (ai_mR M) r.1 dflt with
        | some rt => some (rt, ls, t, h)
        | none => none) else (match offs[(x.toInt - lo).toNat]? with
        | some off => (match ai_tf (ai_mR M) r.1 off with
          | some rt => some (rt, ls, t, h)
          | none => none)
        | none => none)
    | _ => none
  | .getfield _ => match st with
    | .ref a :: t => match h[a]? with
      | some (.inr (c, fs)) => if c = r.2.2.2.2.1 then (match fs[r.2.2.2.2.2.1]? with
          | some v => some (rs, ls, v :: t, h)
          | none => none) else none
      | _ => none
    | _ => none
  | .putfield _ => match st with
    | v :: .ref a :: t => match h[a]? with
      | some (.inr (c, fs)) => if c = r.2.2.2.2.1 ∧ r.2.2.2.2.2.1 < fs.length then (match ai_fty c r.2.2.2.2.2.1 with
          | some ty => if ai_fit ty v = true ∧ (ai_ffin c r.2.2.2.2.2.1 = false ∨ ((ai_mY M).name = "<init>" ∧ c = ai_mC M)) then some (rs, ls, t, h.set a (.inr (c, fs.set r.2.2.2.2.2.1 v))) else none
          | none => none) else none
      | _ => none
    | _ => none
  | .arraylength => match st with
    | .ref a :: t => match h[a]? with
      | some (.inl (k, x)) => if k < 6 then some (rs, ls, .int (Int32.ofNat x.1) :: t, h) else none
      | _ => none
    | .float k :: t => if k = 99 ∧ ai_mC M = 12 then some (rs, ls, .int (Int32.ofNat X.1) :: t, h) else none
    | _ => none
  | .iaload => match st with
    | .int i :: .ref a :: t => match h[a]? with
      | some (.inl (0, n, .inl f)) => if i < 0 ∨ n ≤ i.toNatClampNeg then none else some (rs, ls, .int (f i.toNatClampNeg) :: t, h)
      | _ => none
    | .int i :: .float k :: t => if i < 0 ∨ X.1 ≤ i.toNatClampNeg ∨ k ≠ 99 ∨ ai_mC M ≠ 12 then none else some (rs, ls, .int (X.2 i.toNatClampNeg) :: t, h)
    | _ => none
  | .laload => match st with
    | .int i :: .ref a :: t => match h[a]? with
      | some (.inl (1, n, .inr (.inl f))) => if i < 0 ∨ n ≤ i.toNatClampNeg then none else some (rs, ls, .long (f i.toNatClampNeg) :: t, h)
      | _ => none
    | _ => none
  | .baload => match st with
    | .int i :: .ref a :: t => match h[a]? with
      | some (.inl (2, n, .inl f)) => if i < 0 ∨ n ≤ i.toNatClampNeg then none else some (rs, ls, .int (f i.toNatClampNeg) :: t, h)
      | _ => none
    | _ => none
  | .aaload => match st with
    | .int i :: .ref a :: t => match h[a]? with
      | some (.inl (k, n, .inr (.inr (.inr (.inr f))))) => if i < 0 ∨ n ≤ i.toNatClampNeg ∨ k < 3 ∨ 6 ≤ k then none else some (rs, ls, va_rf (f i.toNatClampNeg) :: t, h)
      | _ => none
    | _ => none
  | .iastore => match st with
    | .int x :: .int i :: .ref a :: t => match h[a]? with
      | some (.inl (0, n, .inl f)) => if i < 0 ∨ n ≤ i.toNatClampNeg then none else some (rs, ls, t, h.set a (.inl (0, n, .inl (upd f i.toNatClampNeg x))))
      | _ => none
    | _ => none
  | .lastore => match st with
    | .long x :: .int i :: .ref a :: t => match h[a]? with
      | some (.inl (1, n, .inr (.inl f))) => if i < 0 ∨ n ≤ i.toNatClampNeg then none else some (rs, ls, t, h.set a (.inl (1, n, .inr (.inl (vp_updL f i.toNatClampNeg x)))))
      | _ => none
    | _ => none
  | .bastore => match st with
    | .int x :: .int i :: .ref a :: t => match h[a]? with
      | some (.inl (2, n, .inl f)) => if i < 0 ∨ n ≤ i.toNatClampNeg then none else some (rs, ls, t, h.set a (.inl (2, n, .inl (upd f i.toNatClampNeg (vp_nar .boolean x)))))
      | _ => none
    | _ => none
  | .aastore => match st with
    | .ref v :: .int i :: .ref a :: t => match h[a]?, h[v]? with
      | some (.inl (k, n, .inr (.inr (.inr (.inr f))))), some (.inr (c, _)) => if i < 0 ∨ n ≤ i.toNatClampNeg then none else (match ai_ty[k]?, ai_cl[c]? with
          | some (.object C), some q => if C = q.1 then some (rs, ls, t, h.set a (.inl (k, n, .inr (.inr (.inr (.inr (va_up f i.toNatClampNeg (some v)))))))) else none
          | _, _ => none)
      | _, _ => none
    | _ => none
  | _ => none
/-- the answer of a method whose type is narrow is what the type holds -/
def ai_rok (t : Option FieldType) (v : Int32) : Bool := match t with
  | some .int => true
  | some .boolean => decide (v = 0 ∨ v = 1)
  | _ => false
/-- arraycopy of ints -/
def ai_cpy (st : List Value) (h : ai_H) : Option (List Value × ai_H) := match st with
  | .int n :: .int dp :: .ref b :: .int sp :: .ref a :: t => match h[a]?, h[b]? with
    | some (.inl (0, n0, .inl f)), some (.inl (0, n1, .inl g)) => if sp < 0 ∨ dp < 0 ∨ n < 0 ∨ n0 < sp.toNatClampNeg + n.toNatClampNeg ∨ n1 < dp.toNatClampNeg + n.toNatClampNeg then none else some (t, h.set b (.inl (0, n1, .inl (va_cpy f g sp.toNatClampNeg dp.toNatClampNeg n.toNatClampNeg))))
    | some (.inl (1, n0, .inr (.inl f))), some (.inl (1, n1, .inr (.inl g))) => if sp < 0 ∨ dp < 0 ∨ n < 0 ∨ n0 < sp.toNatClampNeg + n.toNatClampNeg ∨ n1 < dp.toNatClampNeg + n.toNatClampNeg then none else some (t, h.set b (.inl (1, n1, .inr (.inl (va_cpy f g sp.toNatClampNeg dp.toNatClampNeg n.toNatClampNeg)))))
    | _, _ => none
  | _ => none
/-- what a call takes off the stack: the method called, its arguments, what stays -/
def ai_arg (h : ai_H) (k : Nat) (M : ai_M) (st : List Value) : Option (List Value × List Value) :=
  if k = 1 then (if ai_mN M ≤ st.length then some ((st.take (ai_mN M)).reverse, st.drop (ai_mN M)) else none)
  else match st.drop (ai_mN M) with
    | .ref a :: t => match h[a]? with
      | some (.inr (c, _)) => if c = ai_mC M then some (.ref a :: (st.take (ai_mN M)).reverse, t) else none
      | _ => none
    | _ => none
abbrev ai_O : Type := Option Value × ai_H × Nat × Nat
def ai_add (c s : Nat) (o : ai_O) : ai_O := (o.1, o.2.1, c + o.2.2.1, s + o.2.2.2)
def ai_arr0 : Nat → Option ((Nat → Int32) ⊕ (Nat → Int64) ⊕ (Nat → UInt32) ⊕ (Nat → UInt64) ⊕ (Nat → Option Nat))
  | 0 => some (.inl (fun _ => 0))
  | 1 => some (.inr (.inl (fun _ => 0)))
  | 2 => some (.inl (fun _ => 0))
  | _ => none
def ai_at : ArrayType → Nat
  | .int => 0
  | .long => 1
  | .boolean => 2
  | _ => 9
/-- the kind of an instruction: 0 is ai_stp's -/
def ai_kd : Instr → Nat
  | .ireturn => 1
  | .lreturn => 2
  | .return_ => 3
  | .new _ => 4
  | .newarray _ => 5
  | .anewarray _ => 6
  | .invokevirtual _ => 7
  | .invokestatic _ => 7
  | .invokespecial _ => 7
  | _ => 0
def ai_nt : Instr → Nat
  | .newarray ty => ai_at ty
  | _ => 9
def ai_sum (st : List Value) : Nat := (st.map fun v => v.category).sum
/-- the texts of the program: their lengths, their letters -/
def ai_sl : List Nat := [5, 5, 4, 6, 5, 3, 3, 4, 6, 6, 58]
def ai_sb : List (List Int32) := [[114, 111, 111, 109, 115], [116, 111, 110, 101, 115], [108, 101, 97, 100], [99, 104, 97, 110, 99, 101], [115, 116, 117, 99, 107], [98, 97, 114], [116, 119, 111], [115, 105, 103, 110], [112, 97, 110, 116, 114, 121], [119, 97, 105, 116, 101, 114], [32, 114, 111, 111, 109, 115, 32, 116, 111, 110, 101, 115, 32, 108, 101, 97, 100, 32, 99, 104, 97, 110, 99, 101, 32, 115, 116, 117, 99, 107, 32, 98, 97, 114, 32, 116, 119, 111, 32, 115, 105, 103, 110, 32, 112, 97, 110, 116, 114, 121, 32, 119, 97, 105, 116, 101, 114, 32]]
/-- a letter, as charAt answers it -/
def ai_sc (k j : Nat) : Int32 := (((ai_sb.getD k []).getD j 0 &&& 255).toUInt32 % 65536).toInt32
def ai_so : List (String × Nat × String) := [("OneBell$Reader", 93, "rooms"), ("OneBell$Reader", 98, "tones"), ("OneBell$Reader", 99, "lead"), ("OneBell$Reader", 101, "chance"), ("OneBell$Reader", 103, "stuck"), ("OneBell$Reader", 105, "bar"), ("OneBell$Reader", 107, "two"), ("OneBell$Reader", 109, "sign"), ("OneBell$Reader", 111, "pantry"), ("OneBell$Reader", 113, "waiter"), ("OneBellModel", 107, " rooms tones lead chance stuck bar two sign pantry waiter ")]
def ai_run (X : ai_X) : Nat → ai_M → ai_S → Option ai_O
  | 0, _, _ => none
  | _ + 1, _, ([], _) => none
  | n + 1, M, (r :: rs, ls, st, h) => match ai_kd r.2.1 with
    | 0 => match ai_stp X M r rs ls st h with
      | some s => ai_run X n M s
      | none => none
    | 1 => match st with
      | [.int v] => if ai_rok (ai_mT M) v = true then some (some (.int v), h, 0, 0) else none
      | _ => none
    | 2 => match st with
      | [.long v] => if ai_mT M = some .long then some (some (.long v), h, 0, 0) else none
      | _ => none
    | 3 => match st with
      | [] => if ai_mT M = none then some (none, h, 0, 0) else none
      | _ => none
    | 4 => match ai_df[r.2.2.2.2.1]? with
      | some fs => (ai_run X n M (rs, ls, .ref h.length :: st, h ++ [.inr (r.2.2.2.2.1, fs)])).map (ai_add 1 fs.length)
      | none => none
    | 5 => match st, ai_arr0 (ai_nt r.2.1) with
      | .int k :: t, some f => if k < 0 ∨ 65536 < k.toNatClampNeg then none else (ai_run X n M (rs, ls, .ref h.length :: t, h ++ [.inl (ai_nt r.2.1, k.toNatClampNeg, f)])).map (ai_add 1 k.toNatClampNeg)
      | _, _ => none
    | 6 => match st with
      | .int k :: t => if k < 0 ∨ 65536 < k.toNatClampNeg ∨ r.2.2.2.2.1 < 3 then none else (ai_run X n M (rs, ls, .ref h.length :: t, h ++ [.inl (r.2.2.2.2.1, k.toNatClampNeg, .inr (.inr (.inr (.inr (fun _ => none)))))])).map (ai_add 1 k.toNatClampNeg)
      | _ => none
    | 7 => if r.2.2.2.2.1 = 4 then (match st with
        | .ref _ :: t => if ai_sum t ≤ 8 then ai_run X n M (rs, ls, t, h) else none
        | _ => none)
      else if r.2.2.2.2.1 = 5 then (match ai_cpy st h with
        | some (t, h1) => if ai_sum t ≤ 8 then ai_run X n M (rs, ls, t, h1) else none
        | none => none)
      else if r.2.2.2.2.1 = 6 then (match st with
        | .float k :: t => if ai_sum t ≤ 8 ∧ k.toNat < 11 then ai_run X n M (rs, ls, .int (nI (ai_sl.getD k.toNat 0)) :: t, h) else none
        | _ => none)
      else if r.2.2.2.2.1 = 7 then (match st with
        | .int i :: .float k :: t => if ai_sum t ≤ 8 ∧ k.toNat < 11 ∧ ¬ (i < 0 ∨ ai_sl.getD k.toNat 0 ≤ i.toNatClampNeg) then ai_run X n M (rs, ls, .int (ai_sc k.toNat i.toNatClampNeg) :: t, h) else none
        | _ => none)
      else if r.2.2.2.2.1 = 8 then (match st with
        | .int y :: .int x :: t => if ai_sum t ≤ 8 then ai_run X n M (rs, ls, .int (if x < y then y else x) :: t, h) else none
        | _ => none)
      else if r.2.2.2.2.1 = 9 then (match st with
        | .int y :: .int x :: t => if ai_sum t ≤ 8 then ai_run X n M (rs, ls, .int (if y < x then y else x) :: t, h) else none
        | _ => none)
      else if r.2.2.2.2.1 < 4 then (match ai_mt[r.2.2.2.2.2.1]? with
        | some M1 => (match ai_arg h r.2.2.2.2.1 M1 st with
          | some (av, t) => if (ai_fl av).length ≤ ai_mL M1 ∧ ai_sum t ≤ 8 then (match ai_run X n M1 (ai_mR M1, ai_loc (ai_mL M1) av, [], h) with
              | some o => (ai_run X n M (rs, ls, o.1.toList ++ t, o.2.1)).map (ai_add o.2.2.1 o.2.2.2)
              | none => none) else none
          | none => none)
        | none => none)
      else none
    | _ => none
/-! what the tables promise -/
abbrev ai_mPc (M : ai_M) : Nat := M.2.2.2.2.2.2.2.2.1
abbrev ai_mPi (M : ai_M) : Nat := M.2.2.2.2.2.2.2.2.2.1
abbrev ai_mPs (M : ai_M) : Nat := M.2.2.2.2.2.2.2.2.2.2.1
def ai_len : Instr → Nat → Bool
  | .iload _, k => k == 2
  | .lload _, k => k == 2
  | .aload _, k => k == 2
  | .istore _, k => k == 2
  | .lstore _, k => k == 2
  | .astore _, k => k == 2
  | .bipush _, k => k == 2
  | .ldc _, k => k == 2
  | .newarray _, k => k == 2
  | .tableswitch _ _ _ _, _ => true
  | .sipush _, k => k == 3
  | .iinc _ _, k => k == 3
  | .if_icmp _ _, k => k == 3
  | .ifCond _ _, k => k == 3
  | .ifnull _, k => k == 3
  | .ifnonnull _, k => k == 3
  | .goto _, k => k == 3
  | .getfield _, k => k == 3
  | .putfield _, k => k == 3
  | .invokevirtual _, k => k == 3
  | .invokestatic _, k => k == 3
  | .invokespecial _, k => k == 3
  | .new _, k => k == 3
  | .anewarray _, k => k == 3
  | .ldc_w _, k => k == 3
  | .ldc2_w _, k => k == 3
  | _, k => k == 1
def ai_own (M : ai_M) : String := ai_cn.getD (ai_mC M) ""
/-- the tables' words, list by list; a word's place is 1000 times its list's number, and its place there -/
def ai_tb : List (List Cond) := [k2_sels lw_privs_1, k2_sels lw_privs_2, k2_sels lw_privs_3, k2_sels lw_privs_4, k2_sels lw_privs_5, k2_sels lw_privs_6, k2_sels lw_privs_7, tables_1_1, tables_1_2, tables_1_3, tables_1_4, tables_1_5, tables_1_6, tables_1_7, tables_1_8]
def ai_w (p : Nat) (w : Cond) : Bool := decide ((ai_tb.getD (p / 1000) [])[p % 1000]? = some w) && goodWord w
/-- what a row links, by the place of its word in the tables -/
def ai_lnk (M : ai_M) (r : ai_R) : Bool :=
  match r.2.1 with
  | .ldc i => match r.2.2.2.1 with
    | .int v => ai_w r.2.2.2.2.2.2.1 (.constant (ai_own M) i v)
    | .float v => match ai_so[v.toNat]? with
      | some q => decide (q.1 = ai_own M ∧ q.2.1 = i)
      | none => false
    | _ => true
  | .ldc_w i => match r.2.2.2.1 with
    | .int v => ai_w r.2.2.2.2.2.2.1 (.constant (ai_own M) i v)
    | _ => true
  | .ldc2_w i => match r.2.2.2.1 with
    | .long v => ai_w r.2.2.2.2.2.2.1 (.constantLong (ai_own M) i v)
    | _ => true
  | .getfield i => match ai_cl[r.2.2.2.2.1]? with
    | some q => decide (r.2.2.2.2.2.1 < q.2.2) && ai_w r.2.2.2.2.2.2.1 (.fieldLink (ai_own M) i (q.2.1 r.2.2.2.2.2.1).1 (q.2.1 r.2.2.2.2.2.1).2.1 (q.2.1 r.2.2.2.2.2.1).2.2.1)
    | none => false
  | .putfield i => match ai_cl[r.2.2.2.2.1]? with
    | some q => decide (r.2.2.2.2.2.1 < q.2.2) && (decide ((q.2.1 r.2.2.2.2.2.1).1 = q.1) && ai_w r.2.2.2.2.2.2.1 (.fieldLink (ai_own M) i (q.2.1 r.2.2.2.2.2.1).1 (q.2.1 r.2.2.2.2.2.1).2.1 (q.2.1 r.2.2.2.2.2.1).2.2.1))
    | none => false
  | .new i => match ai_cl[r.2.2.2.2.1]? with
    | some q => ai_w r.2.2.2.2.2.2.1 (.classLink (ai_own M) i q.1)
    | none => false
  | .anewarray i => match ai_ty[r.2.2.2.2.1]? with
    | some (.object C) => ai_w r.2.2.2.2.2.2.1 (.classLink (ai_own M) i C)
    | _ => false
  | .invokevirtual i => if r.2.2.2.2.1 = 0 then (match ai_mt[r.2.2.2.2.2.1]? with
      | some M1 => ai_w r.2.2.2.2.2.2.1 (.methodLink (ai_own M) i (ai_mY M1)) && (decide (ai_mK M1 = 0) && (decide (ai_mF M1 + 1 ≤ ai_mF M) && decide (8 + (ai_mL M1 + 11) + ai_mO M1 ≤ ai_mO M)))
      | none => false) else if r.2.2.2.2.1 = 6 then ai_w r.2.2.2.2.2.2.1 (.methodLink (ai_own M) i ⟨"java/lang/String", "length", "()I"⟩) && (decide (2 ≤ ai_mF M) && decide (40 ≤ ai_mO M))
      else decide (r.2.2.2.2.1 = 7) && (ai_w r.2.2.2.2.2.2.1 (.methodLink (ai_own M) i ⟨"java/lang/String", "charAt", "(I)C"⟩) && (decide (4 ≤ ai_mF M) && decide (85 ≤ ai_mO M)))
  | .invokestatic i => if r.2.2.2.2.1 = 1 then (match ai_mt[r.2.2.2.2.2.1]? with
      | some M1 => ai_w r.2.2.2.2.2.2.1 (.methodLink (ai_own M) i (ai_mY M1)) && (decide (ai_mK M1 = 1) && (decide (ai_mF M1 + 1 ≤ ai_mF M) && decide (8 + (ai_mL M1 + 11) + ai_mO M1 ≤ ai_mO M)))
      | none => false) else if r.2.2.2.2.1 = 8 then ai_w r.2.2.2.2.2.2.1 (.methodLink (ai_own M) i Lib.Math.max.name) && (decide (1 ≤ ai_mF M) && decide (21 ≤ ai_mO M))
      else if r.2.2.2.2.1 = 9 then ai_w r.2.2.2.2.2.2.1 (.methodLink (ai_own M) i Lib.Math.min.name) && (decide (1 ≤ ai_mF M) && decide (21 ≤ ai_mO M))
      else decide (r.2.2.2.2.1 = 5) && (ai_w r.2.2.2.2.2.2.1 (.methodLink (ai_own M) i arraycopyName) && (decide (1 ≤ ai_mF M) && decide (26 ≤ ai_mO M)))
  | .invokespecial i => if r.2.2.2.2.1 = 2 then (match ai_mt[r.2.2.2.2.2.1]? with
      | some M1 => ai_w r.2.2.2.2.2.2.1 (.methodLink (ai_own M) i (ai_mY M1)) && (decide (ai_mK M1 = 2) && (decide (ai_mF M1 + 1 ≤ ai_mF M) && decide (8 + (ai_mL M1 + 11) + ai_mO M1 ≤ ai_mO M)))
      | none => false) else if r.2.2.2.2.1 = 3 then (match ai_mt[r.2.2.2.2.2.1]? with
      | some M1 => decide (lw_tbl[r.2.2.2.2.2.2.1]? = some (.methodLinkNest (ai_own M) i (ai_mY M1) an_10)) && (decide (r.2.2.2.2.2.2.1 ∈ ai_nst) && (decide (ai_mK M1 = 2) && (decide (ai_mF M1 + 1 ≤ ai_mF M) && decide (8 + (ai_mL M1 + 11) + ai_mO M1 ≤ ai_mO M))))
      | none => false) else decide (r.2.2.2.2.1 = 4) && (ai_w r.2.2.2.2.2.2.1 (.methodLink (ai_own M) i objectInit) && (decide (1 ≤ ai_mF M) && decide (20 ≤ ai_mO M)))
  | _ => true
def ai_row (M : ai_M) (r : ai_R) : Bool := decide (decode (ai_mB M) r.1 = .ok (r.2.1, r.2.2.1)) && (ai_len r.2.1 r.2.2.1 && ai_lnk M r)
def ai_cont : List ai_R → Bool
  | r :: r1 :: t => r1.1 == r.1 + r.2.2.1 && ai_cont (r1 :: t)
  | _ => true
/-- how a method may be called -/
def ai_mkd (M : ai_M) : Bool := match ai_mK M with
  | 0 => ai_w (ai_mPi M) (.instanceMethod (ai_mY M)) && ai_w (ai_mPs M) (.selects (ai_mY M).cls (ai_mY M) (ai_mY M))
  | 1 => ai_w (ai_mPi M) (.static (ai_mY M))
  | 2 => ai_w (ai_mPi M) (.instanceMethod (ai_mY M)) && decide ((ai_mY M).name = "<init>" ∧ ai_mT M = none)
  | _ => false
/-- a method's own words and numbers -/
def ai_mok (M : ai_M) : Bool :=
  ai_w (ai_mPc M) (.code (ai_mY M) (ai_mB M) (ai_mL M) (ai_mT M)) && (decide ((ai_mY M).cls = ai_own M) && (decide ((ai_mY M).cls ≠ "java/lang/invoke/MethodHandle" ∧ (ai_mY M).cls ≠ "java/lang/invoke/VarHandle" ∧ (parseMethodDescriptor (ai_mY M).desc).map (fun d => d.parameters.length) = some (ai_mN M)) && (plainName (ai_mY M).cls && (ai_w (ai_ip.getD (ai_mC M) 0) (.initialized (ai_own M)) && (decide ((ai_mR M).head?.map (fun r => r.1) = some 0) && (decide (ai_mC M ≠ 12) && ai_mkd M))))))
