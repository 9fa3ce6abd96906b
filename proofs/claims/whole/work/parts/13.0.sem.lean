/-! ===== the abstract machine: a heap of numbered cells, and what an instruction asks of it (mine) ===== -/
/-- kinds, lengths, ints, longs, references, how many cells -/
abbrev Hp : Type := (Nat → Nat) × (Nat → Nat) × (Nat → Nat → Int32) × (Nat → Nat → Int64) × (Nat → Nat → Option Nat) × Nat
abbrev ab_K (h : Hp) : Nat → Nat := h.1
abbrev ab_L (h : Hp) : Nat → Nat := h.2.1
abbrev ab_I (h : Hp) : Nat → Nat → Int32 := h.2.2.1
abbrev ab_J (h : Hp) : Nat → Nat → Int64 := h.2.2.2.1
abbrev ab_R (h : Hp) : Nat → Nat → Option Nat := h.2.2.2.2.1
abbrev ab_N (h : Hp) : Nat := h.2.2.2.2.2
def ab_sI (h : Hp) (a k : Nat) (v : Int32) : Hp := (h.1, h.2.1, va_up h.2.2.1 a (upd (h.2.2.1 a) k v), h.2.2.2.1, h.2.2.2.2.1, h.2.2.2.2.2)
def ab_sJ (h : Hp) (a k : Nat) (v : Int64) : Hp := (h.1, h.2.1, h.2.2.1, va_up h.2.2.2.1 a (vp_updL (h.2.2.2.1 a) k v), h.2.2.2.2.1, h.2.2.2.2.2)
def ab_sR (h : Hp) (a k : Nat) (v : Option Nat) : Hp := (h.1, h.2.1, h.2.2.1, h.2.2.2.1, va_up h.2.2.2.2.1 a (va_up (h.2.2.2.2.1 a) k v), h.2.2.2.2.2)
/-- all ints of a cell -/
def ab_sA (h : Hp) (a : Nat) (f : Nat → Int32) : Hp := (h.1, h.2.1, va_up h.2.2.1 a f, h.2.2.2.1, h.2.2.2.2.1, h.2.2.2.2.2)
/-- a new cell of a kind, of a length, with ints -/
def ab_nw (h : Hp) (k n : Nat) (f : Nat → Int32) : Hp := (va_up h.1 h.2.2.2.2.2 k, va_up h.2.1 h.2.2.2.2.2 n, va_up h.2.2.1 h.2.2.2.2.2 f, va_up h.2.2.2.1 h.2.2.2.2.2 (fun _ => 0), va_up h.2.2.2.2.1 h.2.2.2.2.2 (fun _ => none), h.2.2.2.2.2 + 1)
/-- new int[n][k]: the outer row, then its rows -/
def ab_mn (h : Hp) (n k : Nat) : Hp :=
  (fun a => if a = h.2.2.2.2.2 then 18 else if h.2.2.2.2.2 < a ∧ a ≤ h.2.2.2.2.2 + n then 13 else h.1 a,
   fun a => if a = h.2.2.2.2.2 then n else if h.2.2.2.2.2 < a ∧ a ≤ h.2.2.2.2.2 + n then k else h.2.1 a,
   fun a => if h.2.2.2.2.2 ≤ a ∧ a ≤ h.2.2.2.2.2 + n then (fun _ => 0) else h.2.2.1 a,
   fun a => if h.2.2.2.2.2 ≤ a ∧ a ≤ h.2.2.2.2.2 + n then (fun _ => 0) else h.2.2.2.1 a,
   fun a => if a = h.2.2.2.2.2 then (fun i => if i < n then some (h.2.2.2.2.2 + 1 + i) else none) else if h.2.2.2.2.2 < a ∧ a ≤ h.2.2.2.2.2 + n then (fun _ => none) else h.2.2.2.2.1 a,
   h.2.2.2.2.2 + 1 + n)
def ab_lk : Lv → Nat → Option Value
  | [], _ => none
  | q :: l, i => match Nat.beq q.1 i with
    | true => some q.2
    | false => ab_lk l i
def ab_f1 (i : Nat) : Lv → (Lv → Prop) → Prop
  | [], k => k []
  | q :: l, k => match (!(q.1 == i) && !(q.1 + 1 == i && q.2.category == 2)) with
    | true => ab_f1 i l (fun r => k (q :: r))
    | false => ab_f1 i l k
def ab_f2 (i : Nat) : Lv → (Lv → Prop) → Prop
  | [], k => k []
  | q :: l, k => match (!(q.1 == i) && (!(q.1 == i + 1) && !(q.1 + 1 == i && q.2.category == 2))) with
    | true => ab_f2 i l (fun r => k (q :: r))
    | false => ab_f2 i l k
/-- the values of listed locals, in order -/
def ab_ga : List Nat → Lv → List Value → (List Value → Prop) → Prop
  | [], _, acc, k => k acc.reverse
  | i :: is, lv, acc, k => match ab_lk lv i with
    | some v => ab_ga is lv (v :: acc) k
    | none => False
/-- n values off the stack, the deepest first -/
def ab_tk : Nat → List Value → List Value → (List Value → List Value → Prop) → Prop
  | 0, st, acc, k => k acc st
  | n + 1, v :: st, acc, k => ab_tk n st (v :: acc) k
  | _ + 1, [], _, _ => False
def ab_cat : List Value → Nat
  | [] => 0
  | v :: l => v.category + ab_cat l
def ab_sk : Nat → List Ent → List Ent
  | _, [] => []
  | t, e :: l => match Nat.beq e.1 t with
    | true => e :: l
    | false => ab_sk t l
/-- what a call may make: cells, slots -/
def ab_co (i : Nat) : List (Nat × Nat × Nat) → Nat × Nat
  | [] => (0, 0)
  | q :: l => match Nat.beq q.1 i with
    | true => q.2
    | false => ab_co i l
def ab_sw (v : Int32) (d : Nat) (k : Nat → Prop) : List (Int32 × Nat) → Prop
  | [] => k d
  | q :: l => (v = q.1 → k q.2) ∧ (¬ v = q.1 → ab_sw v d k l)
def ab_lv : List Nat → List Value → Lv
  | i :: is, v :: vs => (i, v) :: ab_lv is vs
  | _, _ => []
abbrev CallT : Type := Nat → List Value → Hp → (Option Value → Hp → Prop) → Prop
def ab_pu (r : Option Value) (st : List Value) : List Value := match r with
  | some v => v :: st
  | none => st
/-- what was made fits -/
def ab_rt (Mc Ms nc ns : Nat) (P : Prop) : Prop := match Nat.ble nc Mc && Nat.ble ns Ms with
  | true => P
  | false => False
/-- a call, and what it may make -/
def ab_cl (call : CallT) (costs : List (Nat × Nat × Nat)) (Mc Ms x : Nat) (args : List Value) (h : Hp) (nc ns : Nat) (k : Option Value → Hp → Nat → Nat → Prop) : Prop :=
  match ab_co x costs with
  | (0, 0) => ab_rt Mc Ms nc ns (call x args h (fun r h' => k r h' nc ns))
  | (mc, ms) => nc + mc ≤ Mc ∧ ns + ms ≤ Ms ∧ call x args h (fun r h' => k r h' (nc + mc) (ns + ms))
/-- what one instruction asks -/
def ab_sem (call : CallT) (costs : List (Nat × Nat × Nat)) (rk Mc Ms : Nat) (Q : Option Value → Hp → Prop) (i : Instr) (x y z : Nat) (c : Value) (w : List (Int32 × Nat)) (lv : Lv) (st : List Value) (h : Hp) (nc ns : Nat)
    (go : Lv → List Value → Hp → Nat → Nat → Prop) (jp : Nat → Lv → List Value → Hp → Nat → Nat → Prop) : Prop :=
  match i with
  | .iconst _ | .bipush _ | .sipush _ | .lconst _ | .ldc _ | .ldc_w _ | .ldc2_w _ | .getstatic _ => go lv (c :: st) h nc ns
  | .aconst_null => go lv (.null :: st) h nc ns
  | .iload _ | .iload_n _ => match ab_lk lv x with
    | some (.int v) => go lv (.int v :: st) h nc ns
    | _ => False
  | .lload _ | .lload_n _ => match ab_lk lv x with
    | some (.long v) => go lv (.long v :: st) h nc ns
    | _ => False
  | .aload _ | .aload_n _ => match ab_lk lv x with
    | some (.ref v) => go lv (.ref v :: st) h nc ns
    | some .null => go lv (.null :: st) h nc ns
    | some (.float v) => go lv (.float v :: st) h nc ns
    | _ => False
  | .istore _ | .istore_n _ => match st with
    | .int v :: st => ab_f1 x lv (fun l => go ((x, .int v) :: l) st h nc ns)
    | _ => False
  | .lstore _ | .lstore_n _ => match st with
    | .long v :: st => ab_f2 x lv (fun l => go ((x, .long v) :: l) st h nc ns)
    | _ => False
  | .astore _ | .astore_n _ => match st with
    | .ref v :: st => ab_f1 x lv (fun l => go ((x, .ref v) :: l) st h nc ns)
    | .null :: st => ab_f1 x lv (fun l => go ((x, .null) :: l) st h nc ns)
    | _ => False
  | .iinc _ _ => match ab_lk lv x, c with
    | some (.int v), .int n => ab_f1 x lv (fun l => go ((x, .int (v + n)) :: l) st h nc ns)
    | _, _ => False
  | .iadd => match st with
    | .int b :: .int a :: st => go lv (.int (a + b) :: st) h nc ns
    | _ => False
  | .isub => match st with
    | .int b :: .int a :: st => go lv (.int (a - b) :: st) h nc ns
    | _ => False
  | .imul => match st with
    | .int b :: .int a :: st => go lv (.int (a * b) :: st) h nc ns
    | _ => False
  | .idiv => match st with
    | .int b :: .int a :: st => ¬ b = 0 ∧ go lv (.int (a / b) :: st) h nc ns
    | _ => False
  | .irem => match st with
    | .int b :: .int a :: st => ¬ b = 0 ∧ go lv (.int (a - a / b * b) :: st) h nc ns
    | _ => False
  | .iand => match st with
    | .int b :: .int a :: st => go lv (.int (a &&& b) :: st) h nc ns
    | _ => False
  | .ior => match st with
    | .int b :: .int a :: st => go lv (.int (a ||| b) :: st) h nc ns
    | _ => False
  | .ixor => match st with
    | .int b :: .int a :: st => go lv (.int (a ^^^ b) :: st) h nc ns
    | _ => False
  | .ishl => match st with
    | .int b :: .int a :: st => go lv (.int (a <<< (b &&& 31)) :: st) h nc ns
    | _ => False
  | .ishr => match st with
    | .int b :: .int a :: st => go lv (.int (a >>> (b &&& 31)) :: st) h nc ns
    | _ => False
  | .iushr => match st with
    | .int b :: .int a :: st => go lv (.int (a.toUInt32 >>> (b.toUInt32 &&& Int32.toUInt32 31)).toInt32 :: st) h nc ns
    | _ => False
  | .ineg => match st with
    | .int a :: st => go lv (.int (-a) :: st) h nc ns
    | _ => False
  | .i2b => match st with
    | .int a :: st => go lv (.int a.toInt8.toInt32 :: st) h nc ns
    | _ => False
  | .i2c => match st with
    | .int a :: st => go lv (.int (a.toUInt32 % 65536).toInt32 :: st) h nc ns
    | _ => False
  | .i2l => match st with
    | .int a :: st => go lv (.long a.toInt64 :: st) h nc ns
    | _ => False
  | .l2i => match st with
    | .long a :: st => go lv (.int a.toInt32 :: st) h nc ns
    | _ => False
  | .ladd => match st with
    | .long b :: .long a :: st => go lv (.long (a + b) :: st) h nc ns
    | _ => False
  | .lsub => match st with
    | .long b :: .long a :: st => go lv (.long (a - b) :: st) h nc ns
    | _ => False
  | .lmul => match st with
    | .long b :: .long a :: st => go lv (.long (a * b) :: st) h nc ns
    | _ => False
  | .ldiv => match st with
    | .long b :: .long a :: st => ¬ b = 0 ∧ go lv (.long (a / b) :: st) h nc ns
    | _ => False
  | .lrem => match st with
    | .long b :: .long a :: st => ¬ b = 0 ∧ go lv (.long (a - a / b * b) :: st) h nc ns
    | _ => False
  | .land => match st with
    | .long b :: .long a :: st => go lv (.long (a &&& b) :: st) h nc ns
    | _ => False
  | .lor => match st with
    | .long b :: .long a :: st => go lv (.long (a ||| b) :: st) h nc ns
    | _ => False
  | .lneg => match st with
    | .long a :: st => go lv (.long (-a) :: st) h nc ns
    | _ => False
  | .lshl => match st with
    | .int b :: .long a :: st => go lv (.long (a <<< (b.toInt64 &&& 63)) :: st) h nc ns
    | _ => False
  | .lshr => match st with
    | .int b :: .long a :: st => go lv (.long (a >>> (b.toInt64 &&& 63)) :: st) h nc ns
    | _ => False
  | .lcmp => match st with
    | .long b :: .long a :: st => go lv (.int (lg_cmp a b) :: st) h nc ns
    | _ => False
  | .dup => match st with
    | v :: st => match Nat.beq v.category 1 with
      | true => go lv (v :: v :: st) h nc ns
      | false => False
    | _ => False
  | .dup2 => match st with
    | v :: u :: st => match Nat.beq v.category 1 && Nat.beq u.category 1 with
      | true => go lv (v :: u :: v :: u :: st) h nc ns
      | false => False
    | _ => False
  | .pop => match st with
    | v :: st => match Nat.beq v.category 1 with
      | true => go lv st h nc ns
      | false => False
    | _ => False
  | .goto _ => jp x lv st h nc ns
  | .ifCond k _ => match st with
    | .int a :: st => match k with
      | .eq => (a = 0 → jp x lv st h nc ns) ∧ (¬ a = 0 → go lv st h nc ns)
      | .ne => (¬ a = 0 → jp x lv st h nc ns) ∧ (a = 0 → go lv st h nc ns)
      | .lt => (a < 0 → jp x lv st h nc ns) ∧ (¬ a < 0 → go lv st h nc ns)
      | .ge => (0 ≤ a → jp x lv st h nc ns) ∧ (¬ 0 ≤ a → go lv st h nc ns)
      | .gt => (0 < a → jp x lv st h nc ns) ∧ (¬ 0 < a → go lv st h nc ns)
      | .le => (a ≤ 0 → jp x lv st h nc ns) ∧ (¬ a ≤ 0 → go lv st h nc ns)
    | _ => False
  | .if_icmp k _ => match st with
    | .int b :: .int a :: st => match k with
      | .eq => (a = b → jp x lv st h nc ns) ∧ (¬ a = b → go lv st h nc ns)
      | .ne => (¬ a = b → jp x lv st h nc ns) ∧ (a = b → go lv st h nc ns)
      | .lt => (a < b → jp x lv st h nc ns) ∧ (¬ a < b → go lv st h nc ns)
      | .ge => (b ≤ a → jp x lv st h nc ns) ∧ (¬ b ≤ a → go lv st h nc ns)
      | .gt => (b < a → jp x lv st h nc ns) ∧ (¬ b < a → go lv st h nc ns)
      | .le => (a ≤ b → jp x lv st h nc ns) ∧ (¬ a ≤ b → go lv st h nc ns)
    | _ => False
  | .ifnull _ => match st with
    | .null :: st => jp x lv st h nc ns
    | .ref _ :: st => go lv st h nc ns
    | _ => False
  | .ifnonnull _ => match st with
    | .null :: st => go lv st h nc ns
    | .ref _ :: st => jp x lv st h nc ns
    | _ => False
  | .tableswitch _ _ _ _ | .lookupswitch _ _ => match st with
    | .int v :: st => ab_sw v x (fun t => jp t lv st h nc ns) w
    | _ => False
  | .getfield _ => match st with
    | .ref a :: st => ab_K h a = x ∧ (match z with
      | 1 => go lv (.long (ab_J h a y) :: st) h nc ns
      | 2 => ∃ b, ab_R h a y = some b ∧ go lv (.ref b :: st) h nc ns
      | _ => go lv (.int (ab_I h a y) :: st) h nc ns)
    | _ => False
  | .putfield _ => match z, st with
    | 0, .int v :: .ref a :: st => ab_K h a = x ∧ go lv st (ab_sI h a y v) nc ns
    | 1, .long v :: .ref a :: st => ab_K h a = x ∧ go lv st (ab_sJ h a y v) nc ns
    | 2, .ref v :: .ref a :: st => ab_K h a = x ∧ go lv st (ab_sR h a y (some v)) nc ns
    | 3, .int v :: .ref a :: st => ab_K h a = x ∧ (v = 0 ∨ v = 1) ∧ go lv st (ab_sI h a y v) nc ns
    | _, _ => False
  | .iaload | .baload => match st with
    | .int j :: .ref a :: st => ab_K h a = x ∧ vp_in j (ab_L h a) ∧ go lv (.int (ab_I h a j.toNatClampNeg) :: st) h nc ns
    | _ => False
  | .laload => match st with
    | .int j :: .ref a :: st => ab_K h a = 14 ∧ vp_in j (ab_L h a) ∧ go lv (.long (ab_J h a j.toNatClampNeg) :: st) h nc ns
    | _ => False
  | .aaload => match st with
    | .int j :: .ref a :: st => ab_K h a = x ∧ vp_in j (ab_L h a) ∧ (ab_R h a j.toNatClampNeg = none → go lv (.null :: st) h nc ns) ∧ (∀ b, ab_R h a j.toNatClampNeg = some b → go lv (.ref b :: st) h nc ns)
    | _ => False
  | .iastore => match st with
    | .int v :: .int j :: .ref a :: st => ab_K h a = 13 ∧ vp_in j (ab_L h a) ∧ go lv st (ab_sI h a j.toNatClampNeg v) nc ns
    | _ => False
  | .bastore => match st with
    | .int v :: .int j :: .ref a :: st => ab_K h a = 15 ∧ vp_in j (ab_L h a) ∧ go lv st (ab_sI h a j.toNatClampNeg (v &&& 1)) nc ns
    | _ => False
  | .lastore => match st with
    | .long v :: .int j :: .ref a :: st => ab_K h a = 14 ∧ vp_in j (ab_L h a) ∧ go lv st (ab_sJ h a j.toNatClampNeg v) nc ns
    | _ => False
  | .aastore => match st with
    | .ref b :: .int j :: .ref a :: st => ab_K h a = x ∧ vp_in j (ab_L h a) ∧ ab_K h b = y ∧ go lv st (ab_sR h a j.toNatClampNeg (some b)) nc ns
    | .null :: .int j :: .ref a :: st => ab_K h a = x ∧ vp_in j (ab_L h a) ∧ go lv st (ab_sR h a j.toNatClampNeg none) nc ns
    | _ => False
  | .arraylength => match st with
    | .ref a :: st => ab_K h a = x ∧ go lv (.int (Int32.ofNat (ab_L h a)) :: st) h nc ns
    | _ => False
  | .new _ => nc + 1 ≤ Mc ∧ ns + y ≤ Ms ∧ go lv (.ref (ab_N h) :: st) (ab_nw h x 0 (fun _ => 0)) (nc + 1) (ns + y)
  | .newarray _ | .anewarray _ => match st with
    | .int n :: st => ¬ n < 0 ∧ nc + 1 ≤ Mc ∧ ns + n.toNatClampNeg ≤ Ms ∧ go lv (.ref (ab_N h) :: st) (ab_nw h x n.toNatClampNeg (fun _ => 0)) (nc + 1) (ns + n.toNatClampNeg)
    | _ => False
  | .multianewarray _ _ => match st with
    | .int k :: .int n :: st => ¬ n < 0 ∧ ¬ k < 0 ∧ nc + (1 + n.toNatClampNeg) ≤ Mc ∧ ns + (n.toNatClampNeg + n.toNatClampNeg * k.toNatClampNeg) ≤ Ms ∧ go lv (.ref (ab_N h) :: st) (ab_mn h n.toNatClampNeg k.toNatClampNeg) (nc + (1 + n.toNatClampNeg)) (ns + (n.toNatClampNeg + n.toNatClampNeg * k.toNatClampNeg))
    | _ => False
  | .checkcast _ => match st with
    | .ref a :: st => ab_K h a = 13 ∧ go lv (.ref a :: st) h nc ns
    | _ => False
  | .invokevirtual _ | .invokestatic _ | .invokespecial _ => ab_tk y st [] (fun args rest =>
      match Nat.ble (ab_cat rest) 8 with
      | false => False
      | true =>
        match x with
        | 9001 => (match args with
          | [.ref _] => go lv rest h nc ns
          | _ => False)
        | 9002 => (match args with
          | [.ref a, .int sp, .ref b, .int dp, .int n] => ab_K h a = 13 ∧ ab_K h b = 13 ∧ ¬ sp < 0 ∧ ¬ dp < 0 ∧ ¬ n < 0 ∧ sp.toNatClampNeg + n.toNatClampNeg ≤ ab_L h a ∧ dp.toNatClampNeg + n.toNatClampNeg ≤ ab_L h b ∧
              go lv rest (ab_sA h b (va_cpy (ab_I h a) (ab_I h b) sp.toNatClampNeg dp.toNatClampNeg n.toNatClampNeg)) nc ns
          | _ => False)
        | 9003 => (match args with
          | [.ref a] => ab_K h a = 13 ∧ nc + 1 ≤ Mc ∧ ns + ab_L h a ≤ Ms ∧ go lv (.ref (ab_N h) :: rest) (ab_nw h 13 (ab_L h a) (ab_I h a)) (nc + 1) (ns + ab_L h a)
          | _ => False)
        | 9999 => False
        | _ => (match z with
          | 99 => ab_cl call costs Mc Ms x args h nc ns (fun r h nc ns => go lv (ab_pu r rest) h nc ns)
          | _ => (match args with
            | .ref a :: _ => (match z with
              | 98 => ab_cl call costs Mc Ms x args h nc ns (fun r h nc ns => go lv (ab_pu r rest) h nc ns)
              | _ => ab_K h a = z ∧ ab_cl call costs Mc Ms x args h nc ns (fun r h nc ns => go lv (ab_pu r rest) h nc ns))
            | _ => False)))
  | .ireturn => match st with
    | [.int v] => (match rk with
      | 0 => ab_rt Mc Ms nc ns (Q (some (.int v)) h)
      | 3 => (v = 0 ∨ v = 1) ∧ ab_rt Mc Ms nc ns (Q (some (.int v)) h)
      | 4 => narrow .char (.int v) = .int v ∧ ab_rt Mc Ms nc ns (Q (some (.int v)) h)
      | 5 => narrow .byte (.int v) = .int v ∧ ab_rt Mc Ms nc ns (Q (some (.int v)) h)
      | _ => False)
    | _ => False
  | .lreturn => match rk, st with
    | 1, [.long v] => ab_rt Mc Ms nc ns (Q (some (.long v)) h)
    | _, _ => False
  | .areturn => match rk, st with
    | 2, [.ref a] => ab_rt Mc Ms nc ns (Q (some (.ref a)) h)
    | 2, [.null] => ab_rt Mc Ms nc ns (Q (some .null) h)
    | _, _ => False
  | .return_ => match rk, st with
    | 6, [] => ab_rt Mc Ms nc ns (Q none h)
    | _, _ => False
  | _ => False
/-- on with the code from here: a loop's head hands over to W -/
def ab_nx (W : Nat → List Value → Hp → Nat → Nat → Prop) (cuts : List (Nat × List Nat)) (rec : List Ent → Lv → List Value → Hp → Nat → Nat → Prop) (cs : List Ent) (lv : Lv) (st : List Value) (h : Hp) (nc ns : Nat) : Prop :=
  match cs with
  | (pc, _, _, _, _, _, true, _, _) :: _ => (match st, cuts.find? (fun q => Nat.beq q.1 pc) with
    | [], some q => ab_ga q.2 lv [] (fun vs => W pc vs h nc ns)
    | _, _ => False)
  | _ => rec cs lv st h nc ns
/-- on with the code from here: at most n instructions -/
def ab_vc (call : CallT) (costs : List (Nat × Nat × Nat)) (rk Mc Ms : Nat) (Q : Option Value → Hp → Prop) (W : Nat → List Value → Hp → Nat → Nat → Prop) (cuts : List (Nat × List Nat)) (full : List Ent) : Nat → List Ent → Lv → List Value → Hp → Nat → Nat → Prop
  | 0, _, _, _, _, _, _ => False
  | _ + 1, [], _, _, _, _, _ => False
  | n + 1, (_, i, _, x, y, z, _, c, w) :: cs, lv, st, h, nc, ns =>
    ab_sem call costs rk Mc Ms Q i x y z c w lv st h nc ns
      (fun lv st h nc ns => ab_nx W cuts (ab_vc call costs rk Mc Ms Q W cuts full n) cs lv st h nc ns)
      (fun t lv st h nc ns => ab_nx W cuts (ab_vc call costs rk Mc Ms Q W cuts full n) (ab_sk t full) lv st h nc ns)
