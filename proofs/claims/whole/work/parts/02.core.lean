/-! ===== a small machine of numbers: objects are numbers, a store of ints, longs and references, code as blocks ===== -/
abbrev jv_H : Type := (Nat → Nat → Int32) × (Nat → Nat → Int64) × (Nat → Nat → Option Nat)
/-- instruction, its length, x1, x2, xs, an int, a long -/
abbrev jv_E : Type := Instr × Nat × Nat × Nat × List Nat × Int32 × Int64
abbrev jv_B : Type := Nat × Option (List Bool) × List jv_E
/-- kind of the answer, cells and slots that it makes, places for locals, blocks -/
abbrev jv_M : Type := Nat × Nat × Nat × Nat × List jv_B
abbrev jv_X : Type := Nat × (Nat → Int32)
abbrev jv_Q : Type := Option Value → jv_H → Prop
abbrev jv_P : Type := Nat → List jv_E → List Value → List Value → jv_H → Nat → Prop
abbrev jv_C : Type := Nat → List Value → Nat → jv_H → jv_Q → Prop
def jv_gI (h : jv_H) (k i : Nat) : Int32 := h.1 k i
def jv_gL (h : jv_H) (k i : Nat) : Int64 := h.2.1 k i
def jv_gR (h : jv_H) (k i : Nat) : Option Nat := h.2.2 k i
def jv_uI (h : jv_H) (k i : Nat) (v : Int32) : jv_H := (fun a j => if a = k ∧ j = i then v else h.1 a j, h.2.1, h.2.2)
def jv_uL (h : jv_H) (k i : Nat) (v : Int64) : jv_H := (h.1, fun a j => if a = k ∧ j = i then v else h.2.1 a j, h.2.2)
def jv_uR (h : jv_H) (k i : Nat) (v : Option Nat) : jv_H := (h.1, h.2.1, fun a j => if a = k ∧ j = i then v else h.2.2 a j)
/-- a new cell's fields -/
def jv_z (h : jv_H) (k : Nat) : jv_H := (fun a j => if a = k then 0 else h.1 a j, fun a j => if a = k then 0 else h.2.1 a j, fun a j => if a = k then none else h.2.2 a j)
/-- a stretch of longs copied -/
def jv_cp (h : jv_H) (a0 sp a dp n : Nat) : jv_H := (h.1, fun q j => if q = a ∧ dp ≤ j ∧ j < dp + n then h.2.1 a0 (sp + (j - dp)) else h.2.1 q j, h.2.2)
def jv_nth : List Value → Nat → Value
  | [], _ => .retAddr 0
  | v :: _, 0 => v
  | _ :: r, n + 1 => jv_nth r n
def jv_k2 (v : Value) : Value := match v with
  | .long _ => .retAddr 0
  | .double _ => .retAddr 0
  | .int x => .int x
  | .float x => .float x
  | .null => .null
  | .ref a => .ref a
  | .retAddr q => .retAddr q
def jv_s1 : List Value → Nat → Value → List Value
  | [], _, _ => []
  | _ :: r, 0, v => v :: r
  | w :: r, 1, v => jv_k2 w :: jv_s1 r 0 v
  | w :: r, n + 2, v => w :: jv_s1 r (n + 1) v
def jv_tl (r : List Value) : List Value := match r with
  | [] => []
  | _ :: r => .retAddr 0 :: r
def jv_s2 : List Value → Nat → Value → List Value
  | [], _, _ => []
  | _ :: r, 0, v => v :: jv_tl r
  | w :: r, 1, v => jv_k2 w :: jv_s2 r 0 v
  | w :: r, n + 2, v => w :: jv_s2 r (n + 1) v
def jv_mask : List Bool → List Value → List Value
  | _, [] => []
  | [], _ :: r => .retAddr 0 :: jv_mask [] r
  | true :: m, v :: r => v :: jv_mask m r
  | false :: m, _ :: r => .retAddr 0 :: jv_mask m r
def jv_find : List jv_B → Nat → Option (Option (List Bool) × List jv_E)
  | [], _ => none
  | (p, x) :: r, pc => match Nat.beq p pc with
    | true => some x
    | false => jv_find r pc
def jv_pop : Nat → List Value → List Value → Option (List Value × List Value)
  | 0, st, acc => some (acc, st)
  | _ + 1, [], _ => none
  | n + 1, v :: st, acc => jv_pop n st (v :: acc)
def jv_cat : List Value → Nat
  | [] => 0
  | v :: r => v.category + jv_cat r
def jv_sw (x : Int32) : Int → List Nat → Nat → (Nat → Prop) → Prop
  | _, [], d, P => P d
  | v, t :: r, d, P => (x.toInt = v → P t) ∧ (¬ x.toInt = v → jv_sw x (v + 1) r d P)
def jv_lk (x : Int32) : List (Int × Int) → List Nat → Nat → (Nat → Prop) → Prop
  | (v, _) :: ps, t :: r, d, P => (x.toInt = v → P t) ∧ (¬ x.toInt = v → jv_lk x ps r d P)
  | _, _, d, P => P d
/-- the cells in the order in which they are made: kind (0 int[], 1 long[], 2 boolean[], 3 .. 6 rows of objects, 10 + a class), length -/
abbrev jv_G : Type := Nat → Nat × Nat
def jv_S (G : jv_G) : Nat → Nat
  | 0 => 0
  | n + 1 => jv_S G n + (G n).2
/-- cell o is there, and of a kind -/
def jv_is (G : jv_G) (n o kd : Nat) : Prop := o < n ∧ (G o).1 = kd
/-- an index within a row of a kind that is there -/
def jv_ix (G : jv_G) (n o kd : Nat) (i : Int32) : Prop := (o < n ∧ (G o).1 = kd) ∧ 0 ≤ i.toInt ∧ i.toInt < ((G o).2 : Int)
def jv_c1 (c : ClassFile.Cond) (x : Int32) (A B : Prop) : Prop := match c with
  | .eq => (x = 0 → A) ∧ (¬ x = 0 → B)
  | .ne => (¬ x = 0 → A) ∧ (x = 0 → B)
  | .lt => (x < 0 → A) ∧ (¬ x < 0 → B)
  | .ge => (0 ≤ x → A) ∧ (¬ 0 ≤ x → B)
  | .gt => (0 < x → A) ∧ (¬ 0 < x → B)
  | .le => (x ≤ 0 → A) ∧ (¬ x ≤ 0 → B)
def jv_c2 (c : ClassFile.Cond) (x y : Int32) (A B : Prop) : Prop := match c with
  | .eq => (x = y → A) ∧ (¬ x = y → B)
  | .ne => (¬ x = y → A) ∧ (x = y → B)
  | .lt => (x < y → A) ∧ (¬ x < y → B)
  | .ge => (y ≤ x → A) ∧ (¬ y ≤ x → B)
  | .gt => (y < x → A) ∧ (¬ y < x → B)
  | .le => (x ≤ y → A) ∧ (¬ x ≤ y → B)
def jv_ret (G : jv_G) (M : jv_M) (n0 k : Nat) (v : Option Value) (h : jv_H) (Q : jv_Q) : Prop := match M.2.1 with
  | 0 => Q v h
  | _ + 1 => (k = M.2.1 ∧ jv_S G (n0 + k) = jv_S G n0 + M.2.2.1) ∧ Q v h
/-- room for more cells -/
def jv_rm (G : jv_G) (M : jv_M) (n0 k a z : Nat) : Prop := match M.2.1 with
  | 0 => False
  | _ + 1 => k + a ≤ M.2.1 ∧ jv_S G (n0 + k) + z ≤ jv_S G n0 + M.2.2.1
/-- what is asked of an answer, by its kind -/
def jv_rV (K : jv_H → Prop) : jv_Q := fun r h => match r with
  | none => K h
  | some _ => False
def jv_rI (K : Int32 → jv_H → Prop) : jv_Q := fun r h => match r with
  | some (.int z) => K z h
  | _ => False
def jv_rL (K : Int64 → jv_H → Prop) : jv_Q := fun r h => match r with
  | some (.long z) => K z h
  | _ => False
def jv_rA (K : Nat → jv_H → Prop) (K0 : jv_H → Prop) : jv_Q := fun r h => match r with
  | some (.ref a) => K a h
  | some .null => K0 h
  | _ => False
/-- a call by its answer's kind: 0 void, 1 int, 2 long, else a reference -/
def jv_cl (C : jv_C) (rk y : Nat) (as : List Value) (n : Nat) (h : jv_H) (P : List Value → jv_H → Prop) : Prop := match rk with
  | 0 => C y as n h (jv_rV (fun h' => P [] h'))
  | 1 => C y as n h (jv_rI (fun z h' => P [.int z] h'))
  | 2 => C y as n h (jv_rL (fun z h' => P [.long z] h'))
  | _ => C y as n h (jv_rA (fun a h' => P [.ref a] h') (fun h' => P [.null] h'))
/-- xs = [kind of the answer, cells, slots, the receiver's class and 1 (0: none is looked at)] -/
def jv_inv (G : jv_G) (M : jv_M) (n0 : Nat) (C : jv_C) (P : jv_P) (pc : Nat) (e : jv_E) (cs : List jv_E) (ls st : List Value) (h : jv_H) (k : Nat) : Prop :=
  match jv_pop e.2.2.2.1 st [] with
  | none => False
  | some (as, rest) => match Nat.ble (jv_cat rest) 8 with
    | false => False
    | true => match e.2.2.2.2.1 with
      | [rk, 0, 0, 0] => jv_cl C rk e.2.2.1 as (n0 + k) h (fun v h' => P (pc + 3) cs ls (v ++ rest) h' k)
      | [rk, 0, 0, ci + 1] => match as with
        | .ref o :: _ => jv_is G (n0 + k) o (ci + 10) ∧ jv_cl C rk e.2.2.1 as (n0 + k) h (fun v h' => P (pc + 3) cs ls (v ++ rest) h' k)
        | _ => False
      | [rk, a, z, 0] => match as with
        | .ref o :: _ => o < n0 + k ∧ jv_rm G M n0 k a z ∧ jv_cl C rk e.2.2.1 as (n0 + k) h (fun v h' => P (pc + 3) cs ls (v ++ rest) h' (k + a))
        | _ => False
      | _ => False
/-- the library's own methods: 0 Object.<init>, 1 abs of a long, 2 max, 3 min, 4 arraycopy of longs -/
def jv_bi (G : jv_G) (n0 : Nat) (P : jv_P) (pc : Nat) (e : jv_E) (cs : List jv_E) (ls st : List Value) (h : jv_H) (k : Nat) : Prop :=
  match e.2.2.1 with
  | 0 => match st with
    | .ref _ :: st => match Nat.ble (jv_cat st) 8 with
      | true => P (pc + 3) cs ls st h k
      | false => False
    | _ => False
  | 1 => match st with
    | .long x :: st => match Nat.ble (jv_cat st) 8 with
      | true => P (pc + 3) cs ls (.long (if 0 < x then x else -x) :: st) h k
      | false => False
    | _ => False
  | 2 => match st with
    | .int y :: .int x :: st => match Nat.ble (jv_cat st) 8 with
      | true => P (pc + 3) cs ls (.int (if x < y then y else x) :: st) h k
      | false => False
    | _ => False
  | 3 => match st with
    | .int y :: .int x :: st => match Nat.ble (jv_cat st) 8 with
      | true => P (pc + 3) cs ls (.int (if y < x then y else x) :: st) h k
      | false => False
    | _ => False
  | _ => match st with
    | .int n :: .int dp :: .ref a :: .int sp :: .ref a0 :: st => match Nat.ble (jv_cat st) 8 with
      | true => (jv_is G (n0 + k) a0 1 ∧ jv_is G (n0 + k) a 1 ∧ 0 ≤ sp.toInt ∧ 0 ≤ dp.toInt ∧ 0 ≤ n.toInt ∧ sp.toInt + n.toInt ≤ ((G a0).2 : Int) ∧ dp.toInt + n.toInt ≤ ((G a).2 : Int)) ∧ P (pc + 3) cs ls st (jv_cp h a0 sp.toNatClampNeg a dp.toNatClampNeg n.toNatClampNeg) k
      | false => False
    | _ => False
def jv_iv (G : jv_G) (M : jv_M) (n0 d : Nat) (C : jv_C) (P : jv_P) (pc : Nat) (e : jv_E) (cs : List jv_E) (ls st : List Value) (h : jv_H) (k : Nat) : Prop :=
  match e.2.2.2.2.1 with
  | [] => match d with
    | 0 => False
    | _ + 1 => jv_bi G n0 P pc e cs ls st h k
  | _ :: _ => jv_inv G M n0 C P pc e cs ls st h k
def jv_nk (t : ArrayType) : Nat := match t with
  | .int => 0
  | .long => 1
  | .boolean => 2
  | _ => 9
def jv_ldI (P : jv_P) (pc : Nat) (cs : List jv_E) (ls : List Value) (i : Nat) (st : List Value) (h : jv_H) (k : Nat) : Prop := match jv_nth ls i with
  | .int x => P pc cs ls (.int x :: st) h k
  | _ => False
def jv_ldL (P : jv_P) (pc : Nat) (cs : List jv_E) (ls : List Value) (i : Nat) (st : List Value) (h : jv_H) (k : Nat) : Prop := match jv_nth ls i with
  | .long x => P pc cs ls (.long x :: st) h k
  | _ => False
def jv_ldA (P : jv_P) (pc : Nat) (cs : List jv_E) (ls : List Value) (i : Nat) (st : List Value) (h : jv_H) (k : Nat) : Prop := match jv_nth ls i with
  | .ref x => P pc cs ls (.ref x :: st) h k
  | .null => P pc cs ls (.null :: st) h k
  | _ => False
def jv_stI (P : jv_P) (pc : Nat) (cs : List jv_E) (ls : List Value) (i : Nat) (st : List Value) (h : jv_H) (k : Nat) : Prop := match st with
  | .int x :: st => P pc cs (jv_s1 ls i (.int x)) st h k
  | _ => False
def jv_stL (P : jv_P) (pc : Nat) (cs : List jv_E) (ls : List Value) (i : Nat) (st : List Value) (h : jv_H) (k : Nat) : Prop := match st with
  | .long x :: st => P pc cs (jv_s2 ls i (.long x)) st h k
  | _ => False
def jv_stA (P : jv_P) (pc : Nat) (cs : List jv_E) (ls : List Value) (i : Nat) (st : List Value) (h : jv_H) (k : Nat) : Prop := match st with
  | .ref x :: st => P pc cs (jv_s1 ls i (.ref x)) st h k
  | .null :: st => P pc cs (jv_s1 ls i .null) st h k
  | _ => False
def jv_i2 (P : jv_P) (pc : Nat) (cs : List jv_E) (ls st : List Value) (h : jv_H) (k : Nat) (f : Int32 → Int32 → Int32) : Prop := match st with
  | .int y :: .int x :: st => P (pc + 1) cs ls (.int (f x y) :: st) h k
  | _ => False
def jv_l2 (P : jv_P) (pc : Nat) (cs : List jv_E) (ls st : List Value) (h : jv_H) (k : Nat) (f : Int64 → Int64 → Int64) : Prop := match st with
  | .long y :: .long x :: st => P (pc + 1) cs ls (.long (f x y) :: st) h k
  | _ => False
/-- a field of a kind: 0 int, 1 long, 2 reference, 4 boolean -/
def jv_gf (P : jv_P) (pc : Nat) (cs : List jv_E) (ls st : List Value) (h : jv_H) (k o i : Nat) (kd : List Nat) : Prop := match kd with
  | [0] => P (pc + 3) cs ls (.int (jv_gI h o i) :: st) h k
  | [4] => P (pc + 3) cs ls (.int (jv_gI h o i) :: st) h k
  | [1] => P (pc + 3) cs ls (.long (jv_gL h o i) :: st) h k
  | [2] => ∃ a : Nat, jv_gR h o i = some a ∧ P (pc + 3) cs ls (.ref a :: st) h k
  | _ => False
def jv_pf (G : jv_G) (P : jv_P) (pc : Nat) (cs : List jv_E) (ls st : List Value) (h : jv_H) (n k ci i : Nat) (kd : List Nat) : Prop := match kd with
  | [0] => match st with
    | .int v :: .ref o :: st => jv_is G n o (ci + 10) ∧ P (pc + 3) cs ls st (jv_uI h o i v) k
    | _ => False
  | [4] => match st with
    | .int v :: .ref o :: st => jv_is G n o (ci + 10) ∧ (v = 0 ∨ v = 1) ∧ P (pc + 3) cs ls st (jv_uI h o i v) k
    | _ => False
  | [1] => match st with
    | .long v :: .ref o :: st => jv_is G n o (ci + 10) ∧ P (pc + 3) cs ls st (jv_uL h o i v) k
    | _ => False
  | [2] => match st with
    | .ref a :: .ref o :: st => jv_is G n o (ci + 10) ∧ a < n ∧ P (pc + 3) cs ls st (jv_uR h o i (some a)) k
    | _ => False
  | _ => False
/-- one instruction -/
def jv_st (G : jv_G) (X : jv_X) (M : jv_M) (n0 d : Nat) (C : jv_C) (Q : jv_Q) (P : jv_P) (pc : Nat) (e : jv_E) (cs : List jv_E) (ls st : List Value) (h : jv_H) (k : Nat) : Prop :=
  match e.1 with
  | .aconst_null => P (pc + 1) cs ls (.null :: st) h k
  | .iconst _ => P (pc + 1) cs ls (.int e.2.2.2.2.2.1 :: st) h k
  | .bipush _ => P (pc + 2) cs ls (.int e.2.2.2.2.2.1 :: st) h k
  | .sipush _ => P (pc + 3) cs ls (.int e.2.2.2.2.2.1 :: st) h k
  | .lconst _ => P (pc + 1) cs ls (.long e.2.2.2.2.2.2 :: st) h k
  | .ldc2_w _ => P (pc + 3) cs ls (.long e.2.2.2.2.2.2 :: st) h k
  | .iload i => jv_ldI P (pc + 2) cs ls i st h k
  | .iload_n i => jv_ldI P (pc + 1) cs ls i.val st h k
  | .lload i => jv_ldL P (pc + 2) cs ls i st h k
  | .lload_n i => jv_ldL P (pc + 1) cs ls i.val st h k
  | .aload i => jv_ldA P (pc + 2) cs ls i st h k
  | .aload_n i => jv_ldA P (pc + 1) cs ls i.val st h k
  | .istore i => jv_stI P (pc + 2) cs ls i st h k
  | .istore_n i => jv_stI P (pc + 1) cs ls i.val st h k
  | .lstore i => jv_stL P (pc + 2) cs ls i st h k
  | .lstore_n i => jv_stL P (pc + 1) cs ls i.val st h k
  | .astore i => jv_stA P (pc + 2) cs ls i st h k
  | .astore_n i => jv_stA P (pc + 1) cs ls i.val st h k
  | .iinc i _ => match jv_nth ls i with
    | .int x => P (pc + 3) cs (jv_s1 ls i (.int (x + e.2.2.2.2.2.1))) st h k
    | _ => False
  | .iadd => jv_i2 P pc cs ls st h k (fun x y => x + y)
  | .isub => jv_i2 P pc cs ls st h k (fun x y => x - y)
  | .imul => jv_i2 P pc cs ls st h k (fun x y => x * y)
  | .iand => jv_i2 P pc cs ls st h k (fun x y => x &&& y)
  | .ior => jv_i2 P pc cs ls st h k (fun x y => x ||| y)
  | .ishr => jv_i2 P pc cs ls st h k (fun x y => x >>> (y &&& 31))
  | .iushr => jv_i2 P pc cs ls st h k (fun x y => (x.toUInt32 >>> (y.toUInt32 &&& Int32.toUInt32 31)).toInt32)
  | .idiv => match st with
    | .int y :: .int x :: st => ¬ y = 0 ∧ P (pc + 1) cs ls (.int (x / y) :: st) h k
    | _ => False
  | .irem => match st with
    | .int y :: .int x :: st => ¬ y = 0 ∧ P (pc + 1) cs ls (.int (x - x / y * y) :: st) h k
    | _ => False
  | .ineg => match st with
    | .int x :: st => P (pc + 1) cs ls (.int (-x) :: st) h k
    | _ => False
  | .ladd => jv_l2 P pc cs ls st h k (fun x y => x + y)
  | .lsub => jv_l2 P pc cs ls st h k (fun x y => x - y)
  | .lmul => jv_l2 P pc cs ls st h k (fun x y => x * y)
  | .land => jv_l2 P pc cs ls st h k (fun x y => x &&& y)
  | .lor => jv_l2 P pc cs ls st h k (fun x y => x ||| y)
  | .ldiv => match st with
    | .long y :: .long x :: st => ¬ y = 0 ∧ P (pc + 1) cs ls (.long (x / y) :: st) h k
    | _ => False
  | .lrem => match st with
    | .long y :: .long x :: st => ¬ y = 0 ∧ P (pc + 1) cs ls (.long (x - x / y * y) :: st) h k
    | _ => False
  | .lneg => match st with
    | .long x :: st => P (pc + 1) cs ls (.long (-x) :: st) h k
    | _ => False
  | .lshl => match st with
    | .int y :: .long x :: st => P (pc + 1) cs ls (.long (x <<< (y.toInt64 &&& 63)) :: st) h k
    | _ => False
  | .lshr => match st with
    | .int y :: .long x :: st => P (pc + 1) cs ls (.long (x >>> (y.toInt64 &&& 63)) :: st) h k
    | _ => False
  | .i2l => match st with
    | .int x :: st => P (pc + 1) cs ls (.long x.toInt64 :: st) h k
    | _ => False
  | .l2i => match st with
    | .long x :: st => P (pc + 1) cs ls (.int x.toInt32 :: st) h k
    | _ => False
  | .lcmp => match st with
    | .long y :: .long x :: st => P (pc + 1) cs ls (.int (lg_cmp x y) :: st) h k
    | _ => False
  | .dup => match st with
    | .int x :: st => P (pc + 1) cs ls (.int x :: .int x :: st) h k
    | .ref x :: st => P (pc + 1) cs ls (.ref x :: .ref x :: st) h k
    | _ => False
  | .dup2 => match st with
    | .int y :: .ref x :: st => P (pc + 1) cs ls (.int y :: .ref x :: .int y :: .ref x :: st) h k
    | _ => False
  | .pop => match st with
    | .int _ :: st => P (pc + 1) cs ls st h k
    | _ => False
  | .ifCond c _ => match st with
    | .int x :: st => jv_c1 c x (P e.2.2.1 [] ls st h k) (P (pc + 3) cs ls st h k)
    | _ => False
  | .if_icmp c _ => match st with
    | .int y :: .int x :: st => jv_c2 c x y (P e.2.2.1 [] ls st h k) (P (pc + 3) cs ls st h k)
    | _ => False
  | .ifnull _ => match st with
    | .ref _ :: st => P (pc + 3) cs ls st h k
    | .null :: st => P e.2.2.1 [] ls st h k
    | _ => False
  | .ifnonnull _ => match st with
    | .ref _ :: st => P e.2.2.1 [] ls st h k
    | .null :: st => P (pc + 3) cs ls st h k
    | _ => False
  | .goto _ => P e.2.2.1 [] ls st h k
  | .tableswitch _ lo _ _ => match st with
    | .int x :: st => jv_sw x lo e.2.2.2.2.1 e.2.2.1 (fun t => P t [] ls st h k)
    | _ => False
  | .lookupswitch _ ps => match st with
    | .int x :: st => jv_lk x ps.toList e.2.2.2.2.1 e.2.2.1 (fun t => P t [] ls st h k)
    | _ => False
  | .getfield _ => match st with
    | .ref o :: st => jv_is G (n0 + k) o (e.2.2.1 + 10) ∧ jv_gf P pc cs ls st h k o e.2.2.2.1 e.2.2.2.2.1
    | _ => False
  | .putfield _ => jv_pf G P pc cs ls st h (n0 + k) k e.2.2.1 e.2.2.2.1 e.2.2.2.2.1
  | .arraylength => match st with
    | .ref a :: st => match e.2.2.1 with
      | 0 => (a < n0 + k ∧ (G a).1 < 7) ∧ P (pc + 1) cs ls (.int (Int32.ofNat (G a).2) :: st) h k
      | _ + 1 => a = 999999 ∧ P (pc + 1) cs ls (.int (Int32.ofNat X.1) :: st) h k
    | _ => False
  | .iaload => match st with
    | .int i :: .ref a :: st => match e.2.2.1 with
      | 0 => jv_ix G (n0 + k) a 0 i ∧ P (pc + 1) cs ls (.int (jv_gI h a i.toNatClampNeg) :: st) h k
      | _ + 1 => (a = 999999 ∧ 0 ≤ i.toInt ∧ i.toInt < (X.1 : Int)) ∧ P (pc + 1) cs ls (.int (X.2 i.toNatClampNeg) :: st) h k
    | _ => False
  | .baload => match st with
    | .int i :: .ref a :: st => jv_ix G (n0 + k) a 2 i ∧ P (pc + 1) cs ls (.int (jv_gI h a i.toNatClampNeg) :: st) h k
    | _ => False
  | .laload => match st with
    | .int i :: .ref a :: st => jv_ix G (n0 + k) a 1 i ∧ P (pc + 1) cs ls (.long (jv_gL h a i.toNatClampNeg) :: st) h k
    | _ => False
  | .aaload => match st with
    | .int i :: .ref a :: st => jv_ix G (n0 + k) a (e.2.2.1 + 3) i ∧ e.2.2.1 < 4 ∧ ∃ o : Nat, jv_gR h a i.toNatClampNeg = some o ∧ P (pc + 1) cs ls (.ref o :: st) h k
    | _ => False
  | .iastore => match st with
    | .int v :: .int i :: .ref a :: st => jv_ix G (n0 + k) a 0 i ∧ P (pc + 1) cs ls st (jv_uI h a i.toNatClampNeg v) k
    | _ => False
  | .bastore => match st with
    | .int v :: .int i :: .ref a :: st => jv_ix G (n0 + k) a 2 i ∧ (v = 0 ∨ v = 1) ∧ P (pc + 1) cs ls st (jv_uI h a i.toNatClampNeg v) k
    | _ => False
  | .lastore => match st with
    | .long v :: .int i :: .ref a :: st => jv_ix G (n0 + k) a 1 i ∧ P (pc + 1) cs ls st (jv_uL h a i.toNatClampNeg v) k
    | _ => False
  | .aastore => match st with
    | .ref o :: .int i :: .ref a :: st => jv_ix G (n0 + k) a (e.2.2.1 + 3) i ∧ jv_is G (n0 + k) o (e.2.2.2.1 + 10) ∧ P (pc + 1) cs ls st (jv_uR h a i.toNatClampNeg (some o)) k
    | _ => False
  | .new _ => (G (n0 + k) = (e.2.2.1 + 10, e.2.2.2.1) ∧ jv_rm G M n0 k 1 e.2.2.2.1) ∧ P (pc + 3) cs ls (.ref (n0 + k) :: st) (jv_z h (n0 + k)) (k + 1)
  | .newarray t => match st with
    | .int i :: st => (jv_nk t < 3 ∧ G (n0 + k) = (jv_nk t, i.toNatClampNeg) ∧ 0 ≤ i.toInt ∧ i.toInt < 1000 ∧ jv_rm G M n0 k 1 i.toNatClampNeg) ∧ P (pc + 2) cs ls (.ref (n0 + k) :: st) (jv_z h (n0 + k)) (k + 1)
    | _ => False
  | .anewarray _ => match st with
    | .int i :: st => (e.2.2.1 < 4 ∧ G (n0 + k) = (e.2.2.1 + 3, i.toNatClampNeg) ∧ 0 ≤ i.toInt ∧ i.toInt < 1000 ∧ jv_rm G M n0 k 1 i.toNatClampNeg) ∧ P (pc + 3) cs ls (.ref (n0 + k) :: st) (jv_z h (n0 + k)) (k + 1)
    | _ => False
  | .invokestatic _ => jv_iv G M n0 d C P pc e cs ls st h k
  | .invokevirtual _ => jv_iv G M n0 d C P pc e cs ls st h k
  | .invokespecial _ => jv_iv G M n0 d C P pc e cs ls st h k
  | .ireturn => match st with
    | [.int v] => match M.1 with
      | 1 => jv_ret G M n0 k (some (.int v)) h Q
      | 4 => (v = 0 ∨ v = 1) ∧ jv_ret G M n0 k (some (.int v)) h Q
      | _ => False
    | _ => False
  | .lreturn => match st with
    | [.long v] => match M.1 with
      | 2 => jv_ret G M n0 k (some (.long v)) h Q
      | _ => False
    | _ => False
  | .areturn => match st with
    | [.ref v] => match M.1 with
      | 3 => jv_ret G M n0 k (some (.ref v)) h Q
      | _ => False
    | [.null] => match M.1 with
      | 3 => jv_ret G M n0 k (some .null) h Q
      | _ => False
    | _ => False
  | .return_ => match st with
    | [] => match M.1 with
      | 0 => jv_ret G M n0 k none h Q
      | _ => False
    | _ => False
  | _ => False
/-- a step: an instruction, or into the block at this place -/
def jv_go (G : jv_G) (X : jv_X) (M : jv_M) (n0 d : Nat) (C : jv_C) (Q : jv_Q) (P : jv_P) (pc : Nat) (cs : List jv_E) (ls st : List Value) (h : jv_H) (k : Nat) : Prop :=
  match cs with
  | [] => match jv_find M.2.2.2.2 pc with
    | none => False
    | some (none, cs) => P pc cs ls st h k
    | some (some m, cs) => P pc cs (jv_mask m ls) st h k
  | e :: cs => jv_st G X M n0 d C Q P pc e cs ls st h k
/-- the machine comes from here to an end with Q -/
def jv_run (G : jv_G) (X : jv_X) (M : jv_M) (n0 d : Nat) (C : jv_C) (Q : jv_Q) (pc : Nat) (cs : List jv_E) (ls st : List Value) (h : jv_H) (k : Nat) : Prop :=
  ∀ P : jv_P, (∀ pc cs ls st h k, jv_go G X M n0 d C Q P pc cs ls st h k → P pc cs ls st h k) → P pc cs ls st h k
def jv_ent : List Value → Nat → List Value
  | [], n => List.replicate n (.retAddr 0)
  | _ :: _, 0 => []
  | .long x :: r, n + 1 => .long x :: (match n with
    | 0 => []
    | n + 1 => .retAddr 0 :: jv_ent r n)
  | .double x :: r, n + 1 => .double x :: (match n with
    | 0 => []
    | n + 1 => .retAddr 0 :: jv_ent r n)
  | v :: r, n + 1 => v :: jv_ent r n
/-- a call of method y, d more frames below -/
def jv_call (G : jv_G) (X : jv_X) (MT : Nat → jv_M) : Nat → jv_C
  | 0, _, _, _, _, _ => False
  | d + 1, y, as, n, h, Q => match Nat.ble (jv_cat as) (MT y).2.2.2.1 with
    | true => jv_run G X (MT y) n d (jv_call G X MT d) Q 0 [] (jv_ent as (MT y).2.2.2.1) [] h 0
    | false => False
/-- to the next place that is cut, by computing -/
def jv_vc (G : jv_G) (X : jv_X) (M : jv_M) (n0 d : Nat) (C : jv_C) (Q : jv_Q) : Nat → jv_P
  | 0, _, _, _, _, _, _ => False
  | f + 1, pc, [], ls, st, h, k => match jv_find M.2.2.2.2 pc with
    | none => False
    | some (none, cs) => jv_vc G X M n0 d C Q f pc cs ls st h k
    | some (some m, cs) => jv_run G X M n0 d C Q pc cs (jv_mask m ls) st h k
  | f + 1, pc, e :: cs, ls, st, h, k => jv_st G X M n0 d C Q (jv_vc G X M n0 d C Q f) pc e cs ls st h k
