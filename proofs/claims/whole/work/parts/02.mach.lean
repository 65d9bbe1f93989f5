/-! THE ABSTRACT MACHINE: a small machine of our own over logical addresses; one step of it as a predicate transformer (am_i), chunks of steps between cut points (am_U). What it has to do with the real machine stands in the parts behind. -/
abbrev am_C : Type := (FieldType × vp_A) ⊕ (Nat × List Value)
abbrev am_H : Type := Nat × Nat × (Nat → am_C)
abbrev am_I : Type := Nat × Instr × Nat × List Nat × Int32
def am_b {α : Type} (o : Option α) (P : α → Prop) : Prop := match o with
  | some x => P x
  | none => False
theorem am_b_some {α : Type} {x : α} {P : α → Prop} : am_b (some x) P ↔ P x := Iff.rfl
theorem am_b_of {α : Type} {o : Option α} {x : α} {P : α → Prop} (e : o = some x) (h : P x) : am_b o P := by rw [e]; exact h
theorem am_b_inv {α : Type} {o : Option α} {P : α → Prop} (h : am_b o P) : ∃ x, o = some x ∧ P x := by
  cases o with
  | none => exact h.elim
  | some x => exact ⟨x, rfl, h⟩
def am_fetch : List am_I → Nat → Option (Instr × Nat × List Nat × Int32)
  | [], _ => none
  | (p, x) :: l, pc => match Nat.beq p pc with
    | true => some x
    | false => am_fetch l pc
def am_nth : List Value → Nat → Value
  | [], _ => .null
  | v :: _, 0 => v
  | _ :: l, n + 1 => am_nth l n
def am_set : List Value → Nat → Value → List Value
  | [], _, _ => []
  | _ :: l, 0, x => x :: l
  | v :: l, n + 1, x => v :: am_set l n x
def am_x : List Nat → Nat → Nat
  | [], _ => 0
  | a :: _, 0 => a
  | _ :: l, n + 1 => am_x l n
def am_mem (a : Nat) : List Nat → Bool
  | [] => false
  | b :: l => match Nat.beq a b with
    | true => true
    | false => am_mem a l
def am_pop : Nat → List Value → List Value → Option (List Value × List Value)
  | 0, acc, st => some (acc, st)
  | n + 1, acc, v :: st => am_pop n (v :: acc) st
  | _ + 1, _, [] => none
/-- no long among the locals -/
def am_nl : List Value → Bool
  | [] => true
  | v :: l => match v with
    | .long _ => false
    | .double _ => false
    | _ => am_nl l
-- the heap: how many cells, how many slots, the cells
def am_look (h : am_H) (k : Nat) : Option am_C := if k < h.1 then some (h.2.2 k) else none
def am_put (h : am_H) (k : Nat) (c : am_C) : am_H := (h.1, h.2.1, va_up h.2.2 k c)
def am_push (h : am_H) (n : Nat) (c : am_C) : am_H := (h.1 + 1, h.2.1 + n, va_up h.2.2 h.1 c)
def am_fld (h : am_H) (a ci k : Nat) : Option Value := match am_look h a with
  | some (.inr (c, fs)) => if c = ci then fs[k]? else none
  | _ => none
def am_gI (h : am_H) (a ci k : Nat) : Option Int32 := match am_fld h a ci k with
  | some (.int x) => some x
  | _ => none
def am_gR (h : am_H) (a ci k : Nat) : Option Nat := match am_fld h a ci k with
  | some (.ref x) => some x
  | _ => none
def am_pF (h : am_H) (a ci k : Nat) (v : Value) : Option am_H := match am_look h a with
  | some (.inr (c, fs)) => if c = ci ∧ k < fs.length then some (am_put h a (.inr (c, fs.set k v))) else none
  | _ => none
def am_ii (h : am_H) (a : Nat) : Option (FieldType × Nat × (Nat → Int32)) := match am_look h a with
  | some (.inl (ty, n, .inl f)) => some (ty, n, f)
  | _ => none
def am_rr (h : am_H) (a : Nat) : Option (FieldType × Nat × (Nat → Option Nat)) := match am_look h a with
  | some (.inl (ty, n, .inr (.inr (.inr (.inr f))))) => some (ty, n, f)
  | _ => none
def am_lI (h : am_H) (ty : FieldType) (a : Nat) (i : Int32) : Option Int32 := match am_ii h a with
  | some (t, n, f) => if t = ty ∧ ¬ (i < 0 ∨ n ≤ i.toNatClampNeg) then some (f i.toNatClampNeg) else none
  | none => none
def am_sI (h : am_H) (ty : FieldType) (a : Nat) (i x : Int32) : Option am_H := match am_ii h a with
  | some (t, n, f) => if t = ty ∧ ¬ (i < 0 ∨ n ≤ i.toNatClampNeg) then some (am_put h a (.inl (ty, n, .inl (upd f i.toNatClampNeg x)))) else none
  | none => none
def am_lA (h : am_H) (C : String) (a : Nat) (i : Int32) : Option Nat := match am_rr h a with
  | some (t, n, f) => if t = .object C ∧ ¬ (i < 0 ∨ n ≤ i.toNatClampNeg) then f i.toNatClampNeg else none
  | none => none
/-- the number of the class of an object -/
def am_cls (h : am_H) (a : Nat) : Option Nat := match am_look h a with
  | some (.inr (c, _)) => some c
  | _ => none
def am_sA (h : am_H) (C : String) (ci a : Nat) (i : Int32) (v : Nat) : Option am_H := match am_rr h a with
  | some (t, n, f) => if (t = .object C ∧ am_cls h v = some ci) ∧ ¬ (i < 0 ∨ n ≤ i.toNatClampNeg) then some (am_put h a (.inl (.object C, n, .inr (.inr (.inr (.inr (va_up f i.toNatClampNeg (some v)))))))) else none
  | none => none
def am_len (h : am_H) (a : Nat) : Option Int32 := match am_look h a with
  | some (.inl (.int, x)) => some (nI x.1)
  | _ => none
def am_cp (h : am_H) (a0 : Nat) (sp : Int32) (a : Nat) (dp n : Int32) : Option am_H := match am_ii h a0, am_ii h a with
  | some (t0, n0, f), some (t1, n1, g) => if (t0 = .int ∧ t1 = .int) ∧ ¬ sp < 0 ∧ ¬ dp < 0 ∧ ¬ n < 0 ∧ sp.toNatClampNeg + n.toNatClampNeg ≤ n0 ∧ dp.toNatClampNeg + n.toNatClampNeg ≤ n1 then some (am_put h a (.inl (.int, n1, .inl (va_cpy f g sp.toNatClampNeg dp.toNatClampNeg n.toNatClampNeg)))) else none
  | _, _ => none
/-- the types of arrays of numbers, by number -/
def am_aty (k : Nat) : FieldType := match k with
  | 0 => .int
  | _ => .boolean
/-- the class's text constants: their bytes -/
def am_sbs : List (List Int32) := [[109, 101, 115, 104], [108, 105, 110, 107], [119, 97, 110, 116], [115, 104, 97, 114, 101]]
def am_sls : List Nat := [4, 4, 4, 5]
def am_sl (i : Nat) : Nat := am_sls.getD i 0
def am_sb (i j : Nat) : Int32 := (am_sbs.getD i []).getD j 0
-- what lies on the stack
def am_1 (st : List Value) (f : Int32 → List Value → Prop) : Prop := match st with
  | .int x :: s => f x s
  | _ => False
def am_2 (st : List Value) (f : Int32 → Int32 → List Value → Prop) : Prop := match st with
  | .int y :: .int x :: s => f x y s
  | _ => False
def am_l2 (st : List Value) (f : Int64 → Int64 → List Value → Prop) : Prop := match st with
  | .long y :: .long x :: s => f x y s
  | _ => False
def am_r (st : List Value) (f : Nat → List Value → Prop) : Prop := match st with
  | .ref a :: s => f a s
  | _ => False
def am_ri (st : List Value) (f : Nat → Int32 → List Value → Prop) : Prop := match st with
  | .int i :: .ref a :: s => f a i s
  | _ => False
def am_rr2 (st : List Value) (f : Nat → Nat → List Value → Prop) : Prop := match st with
  | .ref v :: .ref a :: s => f a v s
  | _ => False
def am_rii (st : List Value) (f : Nat → Int32 → Int32 → List Value → Prop) : Prop := match st with
  | .int x :: .int i :: .ref a :: s => f a i x s
  | _ => False
def am_rir (st : List Value) (f : Nat → Int32 → Nat → List Value → Prop) : Prop := match st with
  | .ref v :: .int i :: .ref a :: s => f a i v s
  | _ => False
def am_cpS (st : List Value) (f : Nat → Int32 → Nat → Int32 → Int32 → List Value → Prop) : Prop := match st with
  | .int n :: .int dp :: .ref a :: .int sp :: .ref a0 :: s => f a0 sp a dp n s
  | _ => False
/-- one value of one word -/
def am_any (st : List Value) (f : Value → List Value → Prop) : Prop := match st with
  | .int x :: s => f (.int x) s
  | .ref a :: s => f (.ref a) s
  | _ => False
def am_any2 (st : List Value) (f : Value → Value → List Value → Prop) : Prop := match st with
  | .int x :: .int y :: s => f (.int x) (.int y) s
  | .int x :: .ref y :: s => f (.int x) (.ref y) s
  | _ => False
def am_ldi (ls : List Value) (i : Nat) (f : Int32 → Prop) : Prop := match am_nth ls i with
  | .int x => f x
  | _ => False
def am_ldl (ls : List Value) (i : Nat) (f : Int64 → Prop) : Prop := match am_nth ls i with
  | .long x => f x
  | _ => False
def am_ldr (ls : List Value) (i : Nat) (f : Nat → Prop) : Prop := match am_nth ls i with
  | .ref x => f x
  | _ => False
def am_if (b : Bool) (P : Prop) : Prop := match b with
  | true => P
  | false => False
theorem am_if_inv {b : Bool} {P : Prop} (h : am_if b P) : b = true ∧ P := by
  cases b with
  | true => exact ⟨rfl, h⟩
  | false => exact h.elim
/-- an answer fits its type -/
def am_fit (ty : FieldType) (x : Int32) : Prop := narrow ty (.int x) = .int x
/-- the switch: labels and targets in pairs, the first of all the default -/
def am_sw (x : Int32) (d : Nat) (K : Nat → Prop) : List Nat → Prop
  | a :: t :: l => (x = nI a → K t) ∧ (¬ x = nI a → am_sw x d K l)
  | _ => K d
-- a call: its number, how many words it takes, what it answers (0 nothing, 1 an int, 2 nothing and it makes cells)
def am_call (C : Nat → List Value → am_H → Option Int32 → am_H → Prop) (Al : am_H → Nat → Nat → Prop) (mcs : Nat → Nat × Nat) (K : Nat → List Value → List Value → am_H → Prop) (nx : Nat) (aux : List Nat) (ls st : List Value) (h : am_H) : Prop := match am_pop (am_x aux 2) [] st with
  | none => False
  | some (args, rest) => match Nat.ble rest.length 4 with
    | false => False
    | true => match am_x aux 3 with
      | 0 => ∃ h', C (am_x aux 1) args h none h' ∧ K nx ls rest h'
      | 1 => ∃ x h', C (am_x aux 1) args h (some x) h' ∧ K nx ls (.int x :: rest) h'
      | _ => ∃ h', (C (am_x aux 1) args h none h' ∧ Al h (mcs (am_x aux 1)).1 (mcs (am_x aux 1)).2) ∧ K nx ls rest h'
-- one instruction: nx the next place, aux what the tables say of it, imm its number
def am_i (L : Nat) (xs : Nat → Int32) (cn : Nat → String) (df : Nat → List Value) (ret : FieldType) (C : Nat → List Value → am_H → Option Int32 → am_H → Prop) (Al : am_H → Nat → Nat → Prop) (mcs : Nat → Nat × Nat) (Rt : Option Int32 → am_H → Prop) (K : Nat → List Value → List Value → am_H → Prop) (i : Instr) (nx : Nat) (aux : List Nat) (imm : Int32) (ls st : List Value) (h : am_H) : Prop := match i with
  | .iconst _ => K nx ls (.int imm :: st) h
  | .bipush _ => K nx ls (.int imm :: st) h
  | .sipush _ => K nx ls (.int imm :: st) h
  | .ldc_w _ => K nx ls (.int imm :: st) h
  | .ldc _ => match aux with
    | [] => K nx ls (.int imm :: st) h
    | a :: _ => K nx ls (.ref a :: st) h
  | .lconst _ => K nx ls (.long imm.toInt64 :: st) h
  | .ldc2_w _ => K nx ls (.long imm.toInt64 :: st) h
  | .iload_n _ => am_ldi ls (am_x aux 0) (fun x => K nx ls (.int x :: st) h)
  | .iload _ => am_ldi ls (am_x aux 0) (fun x => K nx ls (.int x :: st) h)
  | .lload_n _ => am_ldl ls (am_x aux 0) (fun x => K nx ls (.long x :: st) h)
  | .lload _ => am_ldl ls (am_x aux 0) (fun x => K nx ls (.long x :: st) h)
  | .aload_n _ => am_ldr ls (am_x aux 0) (fun x => K nx ls (.ref x :: st) h)
  | .istore_n _ => am_if (am_nl ls) (am_1 st (fun x s => K nx (am_set ls (am_x aux 0) (.int x)) s h))
  | .istore _ => am_if (am_nl ls) (am_1 st (fun x s => K nx (am_set ls (am_x aux 0) (.int x)) s h))
  | .astore_n _ => am_if (am_nl ls) (am_r st (fun x s => K nx (am_set ls (am_x aux 0) (.ref x)) s h))
  | .iinc _ _ => am_if (am_nl ls) (am_ldi ls (am_x aux 0) (fun x => K nx (am_set ls (am_x aux 0) (.int (x + imm))) st h))
  | .iadd => am_2 st (fun x y s => K nx ls (.int (x + y) :: s) h)
  | .isub => am_2 st (fun x y s => K nx ls (.int (x - y) :: s) h)
  | .imul => am_2 st (fun x y s => K nx ls (.int (x * y) :: s) h)
  | .iand => am_2 st (fun x y s => K nx ls (.int (x &&& y) :: s) h)
  | .ior => am_2 st (fun x y s => K nx ls (.int (x ||| y) :: s) h)
  | .ixor => am_2 st (fun x y s => K nx ls (.int (x ^^^ y) :: s) h)
  | .idiv => am_2 st (fun x y s => (¬ y = 0) ∧ K nx ls (.int (x / y) :: s) h)
  | .irem => am_2 st (fun x y s => (¬ y = 0) ∧ K nx ls (.int (x - x / y * y) :: s) h)
  | .ineg => am_1 st (fun x s => K nx ls (.int (-x) :: s) h)
  | .ishl => am_2 st (fun x y s => K nx ls (.int (x <<< (y &&& 31)) :: s) h)
  | .ishr => am_2 st (fun x y s => K nx ls (.int (x >>> (y &&& 31)) :: s) h)
  | .iushr => am_2 st (fun x y s => K nx ls (.int (x.toUInt32 >>> (y.toUInt32 &&& Int32.toUInt32 31)).toInt32 :: s) h)
  | .i2l => am_1 st (fun x s => K nx ls (.long x.toInt64 :: s) h)
  | .i2c => am_1 st (fun x s => K nx ls (.int (x.toUInt32 % 65536).toInt32 :: s) h)
  | .lcmp => am_l2 st (fun x y s => K nx ls (.int (lg_cmp x y) :: s) h)
  | .dup => am_any st (fun v s => K nx ls (v :: v :: s) h)
  | .dup2 => am_any2 st (fun v w s => K nx ls (v :: w :: v :: w :: s) h)
  | .pop => am_any st (fun _ s => K nx ls s h)
  | .goto _ => K (am_x aux 0) ls st h
  | .ifCond .eq _ => am_1 st (fun x s => if x = 0 then K (am_x aux 0) ls s h else K nx ls s h)
  | .ifCond .ne _ => am_1 st (fun x s => if x = 0 then K nx ls s h else K (am_x aux 0) ls s h)
  | .ifCond .lt _ => am_1 st (fun x s => if x < 0 then K (am_x aux 0) ls s h else K nx ls s h)
  | .ifCond .ge _ => am_1 st (fun x s => if x < 0 then K nx ls s h else K (am_x aux 0) ls s h)
  | .ifCond .gt _ => am_1 st (fun x s => if 0 < x then K (am_x aux 0) ls s h else K nx ls s h)
  | .ifCond .le _ => am_1 st (fun x s => if 0 < x then K nx ls s h else K (am_x aux 0) ls s h)
  | .if_icmp .eq _ => am_2 st (fun x y s => if x = y then K (am_x aux 0) ls s h else K nx ls s h)
  | .if_icmp .ne _ => am_2 st (fun x y s => if x = y then K nx ls s h else K (am_x aux 0) ls s h)
  | .if_icmp .lt _ => am_2 st (fun x y s => if x < y then K (am_x aux 0) ls s h else K nx ls s h)
  | .if_icmp .ge _ => am_2 st (fun x y s => if x < y then K nx ls s h else K (am_x aux 0) ls s h)
  | .if_icmp .gt _ => am_2 st (fun x y s => if y < x then K (am_x aux 0) ls s h else K nx ls s h)
  | .if_icmp .le _ => am_2 st (fun x y s => if y < x then K nx ls s h else K (am_x aux 0) ls s h)
  | .tableswitch _ _ _ _ => am_1 st (fun x s => am_sw x (am_x aux 0) (fun t => K t ls s h) aux.tail)
  | .getfield _ => match am_x aux 2 with
    | 0 => am_r st (fun a s => am_b (am_gI h a (am_x aux 0) (am_x aux 1)) (fun x => K nx ls (.int x :: s) h))
    | 1 => am_r st (fun a s => am_b (am_gR h a (am_x aux 0) (am_x aux 1)) (fun x => K nx ls (.ref x :: s) h))
    | 3 => am_r st (fun a s => am_if (Nat.ble 1000001 a && Nat.ble a 1000004) (K nx ls (.ref (a + 10) :: s) h))
    | _ => am_r st (fun a s => am_if (Nat.ble 1000001 a && Nat.ble a 1000004) (K nx ls (.int 0 :: s) h))
  | .putfield _ => match am_x aux 2 with
    | 0 => am_ri st (fun a x s => am_b (am_pF h a (am_x aux 0) (am_x aux 1) (.int x)) (fun h' => K nx ls s h'))
    | 1 => am_rr2 st (fun a v s => am_b (am_pF h a (am_x aux 0) (am_x aux 1) (.ref v)) (fun h' => K nx ls s h'))
    | _ => am_ri st (fun a x s => (x = 0 ∨ x = 1) ∧ am_b (am_pF h a (am_x aux 0) (am_x aux 1) (.int x)) (fun h' => K nx ls s h'))
  | .getstatic _ => match am_x aux 0 with
    | 0 => K nx ls (.int imm :: st) h
    | _ => K nx ls (.retAddr 0 :: st) h
  | .iaload => match aux with
    | [] => am_ri st (fun a j s => am_b (am_lI h .int a j) (fun x => K nx ls (.int x :: s) h))
    | _ => am_ri st (fun a j s => am_if (Nat.beq a 1000000) ((¬ (j < 0 ∨ L ≤ j.toNatClampNeg)) ∧ K nx ls (.int (xs j.toNatClampNeg) :: s) h))
  | .baload => match aux with
    | [] => am_ri st (fun a j s => am_b (am_lI h .boolean a j) (fun x => K nx ls (.int x :: s) h))
    | _ => am_ri st (fun a j s => am_if (Nat.ble 1000011 a && Nat.ble a 1000014) ((¬ (j < 0 ∨ am_sl (a - 1000011) ≤ j.toNatClampNeg)) ∧ K nx ls (.int (am_sb (a - 1000011) j.toNatClampNeg) :: s) h))
  | .aaload => am_ri st (fun a j s => am_b (am_lA h (cn (am_x aux 0)) a j) (fun x => K nx ls (.ref x :: s) h))
  | .iastore => am_rii st (fun a j x s => am_b (am_sI h .int a j x) (fun h' => K nx ls s h'))
  | .bastore => am_rii st (fun a j x s => (x = 0 ∨ x = 1) ∧ am_b (am_sI h .boolean a j x) (fun h' => K nx ls s h'))
  | .aastore => am_rir st (fun a j v s => am_b (am_sA h (cn (am_x aux 0)) (am_x aux 0) a j v) (fun h' => K nx ls s h'))
  | .arraylength => match aux with
    | [] => am_r st (fun a s => am_b (am_len h a) (fun x => K nx ls (.int x :: s) h))
    | [_] => am_r st (fun a s => am_if (Nat.beq a 1000000) (K nx ls (.int (nI L) :: s) h))
    | _ => am_r st (fun a s => am_if (Nat.ble 1000011 a && Nat.ble a 1000014) (K nx ls (.int (nI (am_sl (a - 1000011))) :: s) h))
  | .newarray _ => am_1 st (fun n s => ((¬ n < 0) ∧ n.toNatClampNeg ≤ 1000) ∧ Al h 1 n.toNatClampNeg ∧ K nx ls (.ref h.1 :: s) (am_push h n.toNatClampNeg (.inl (am_aty (am_x aux 0), n.toNatClampNeg, .inl (fun _ => 0)))))
  | .anewarray _ => am_1 st (fun n s => ((¬ n < 0) ∧ n.toNatClampNeg ≤ 1000) ∧ Al h 1 n.toNatClampNeg ∧ K nx ls (.ref h.1 :: s) (am_push h n.toNatClampNeg (.inl (.object (cn (am_x aux 0)), n.toNatClampNeg, .inr (.inr (.inr (.inr (fun _ => none))))))))
  | .new _ => Al h 1 (df (am_x aux 0)).length ∧ K nx ls (.ref h.1 :: st) (am_push h (df (am_x aux 0)).length (.inr (am_x aux 0, df (am_x aux 0))))
  | .invokevirtual _ => am_call C Al mcs K nx aux ls st h
  | .invokespecial _ => match am_x aux 0 with
    | 0 => am_r st (fun _ s => am_if (Nat.ble s.length 4) (K nx ls s h))
    | _ => am_call C Al mcs K nx aux ls st h
  | .invokestatic _ => match am_x aux 0 with
    | 2 => am_2 st (fun x y s => am_if (Nat.ble s.length 4) (K nx ls (.int (if x < y then y else x) :: s) h))
    | 3 => am_2 st (fun x y s => am_if (Nat.ble s.length 4) (K nx ls (.int (if y < x then y else x) :: s) h))
    | 4 => am_cpS st (fun a0 sp a dp n s => am_if (Nat.ble s.length 4) (am_b (am_cp h a0 sp a dp n) (fun h' => K nx ls s h')))
    | _ => am_call C Al mcs K nx aux ls st h
  | .ireturn => match st with
    | [.int x] => am_fit ret x ∧ Rt (some x) h
    | _ => False
  | .return_ => match st with
    | [] => Rt none h
    | _ => False
  | _ => False
def am_s (L : Nat) (xs : Nat → Int32) (cn : Nat → String) (df : Nat → List Value) (code : List am_I) (ret : FieldType) (C : Nat → List Value → am_H → Option Int32 → am_H → Prop) (Al : am_H → Nat → Nat → Prop) (mcs : Nat → Nat × Nat) (Rt : Option Int32 → am_H → Prop) (K : Nat → List Value → List Value → am_H → Prop) (pc : Nat) (ls st : List Value) (h : am_H) : Prop := match am_fetch code pc with
  | none => False
  | some (i, n, aux, imm) => am_i L xs cn df ret C Al mcs Rt K i (pc + n) aux imm ls st h
/-- the cut points: a place, and which locals live there (the others are forgotten) -/
def am_find (a : Nat) : List (Nat × List Nat) → Option (List Nat)
  | [] => none
  | (b, x) :: l => match Nat.beq a b with
    | true => some x
    | false => am_find a l
def am_keep (lv : List Nat) : Nat → List Value → List Value
  | _, [] => []
  | i, v :: l => (match am_mem i lv with
    | true => v
    | false => .null) :: am_keep lv (i + 1) l
def am_U (L : Nat) (xs : Nat → Int32) (cn : Nat → String) (df : Nat → List Value) (code : List am_I) (ret : FieldType) (C : Nat → List Value → am_H → Option Int32 → am_H → Prop) (Al : am_H → Nat → Nat → Prop) (mcs : Nat → Nat × Nat) (Rt : Option Int32 → am_H → Prop) (K : Nat → List Value → List Value → am_H → Prop) (cuts : List (Nat × List Nat)) : Nat → Nat → List Value → List Value → am_H → Prop
  | 0, pc, ls, st, h => K pc ls st h
  | n + 1, pc, ls, st, h => am_s L xs cn df code ret C Al mcs Rt (fun pc' ls' st' h' => match am_find pc' cuts with
    | some lv => K pc' (am_keep lv 0 ls') st' h'
    | none => am_U L xs cn df code ret C Al mcs Rt K cuts n pc' ls' st' h') pc ls st h
