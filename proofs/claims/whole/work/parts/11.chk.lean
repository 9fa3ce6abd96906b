/-! ===== what a program checks of each method's entries (mine) ===== -/
/-- what a program checks of an entry: its decoding, its numbers -/
def ab_okb (cc : ByteArray) (ml : Nat) (e : Ent) : Bool :=
  decide (decode cc e.1 = .ok (e.2.1, e.2.2.1)) && (match e with
  | (pc, i, len, x, y, z, _, c, w) => match i with
    | .iconst n => decide (len = 1 ∧ c = .int (Int32.ofInt n))
    | .bipush n => decide (len = 2 ∧ c = .int (Int8.ofInt n).toInt32)
    | .sipush n => decide (len = 3 ∧ c = .int (Int16.ofInt n).toInt32)
    | .lconst n => decide (len = 1 ∧ c = .long (Int64.ofNat (n : Nat)))
    | .aconst_null => decide (len = 1)
    | .iload n => decide (len = 2 ∧ x = n)
    | .iload_n n => decide (len = 1 ∧ (n : Nat) = x)
    | .lload n => decide (len = 2 ∧ x = n)
    | .lload_n n => decide (len = 1 ∧ (n : Nat) = x)
    | .aload n => decide (len = 2 ∧ x = n)
    | .aload_n n => decide (len = 1 ∧ (n : Nat) = x)
    | .istore n => decide (len = 2 ∧ x = n ∧ x < ml)
    | .istore_n n => decide (len = 1 ∧ (n : Nat) = x ∧ x < ml)
    | .lstore n => decide (len = 2 ∧ x = n ∧ x + 1 < ml)
    | .lstore_n n => decide (len = 1 ∧ (n : Nat) = x ∧ x + 1 < ml)
    | .astore n => decide (len = 2 ∧ x = n ∧ x < ml)
    | .astore_n n => decide (len = 1 ∧ (n : Nat) = x ∧ x < ml)
    | .iinc n k => decide (len = 3 ∧ x = n ∧ x < ml ∧ c = .int (Int32.ofInt k))
    | .goto k => decide (len = 3 ∧ (pc : Int) + k = (x : Int))
    | .ifCond _ k => decide (len = 3 ∧ (pc : Int) + k = (x : Int))
    | .if_icmp _ k => decide (len = 3 ∧ (pc : Int) + k = (x : Int))
    | .ifnull k => decide (len = 3 ∧ (pc : Int) + k = (x : Int))
    | .ifnonnull k => decide (len = 3 ∧ (pc : Int) + k = (x : Int))
    | .tableswitch d lo hi offs => decide ((pc : Int) + d = (x : Int) ∧ hi - lo + 1 = (offs.size : Int) ∧ w.length = offs.size) && (List.range w.length).all (fun j => decide (((w.getD j (0, 0)).1).toInt = lo + (j : Int) ∧ (pc : Int) + offs.getD j 0 = ((w.getD j (0, 0)).2 : Int)))
    | .lookupswitch d ps => decide ((pc : Int) + d = (x : Int) ∧ w.length = ps.toList.length ∧ (ps.toList.zip (ps.toList.drop 1)).all (fun (a, next) => a.1 < next.1) = true) && (List.range w.length).all (fun j => decide (((w.getD j (0, 0)).1).toInt = (ps.toList.getD j (0, 0)).1 ∧ (pc : Int) + (ps.toList.getD j (0, 0)).2 = ((w.getD j (0, 0)).2 : Int)))
    | .ldc2_w _ | .getfield _ | .putfield _ | .getstatic _ | .new _ | .anewarray _ | .checkcast _ | .invokevirtual _ | .invokestatic _ | .invokespecial _ | .ldc_w _ => decide (len = 3)
    | .ldc _ | .newarray _ => decide (len = 2)
    | .multianewarray _ n => decide (len = 4 ∧ n = 2)
    | _ => decide (len = 1))
def ab_hit (l : List (Nat × Nat × Nat × Nat)) (o n x : Nat) : Bool := l.any (fun q => Nat.beq q.1 o && Nat.beq q.2.1 n && Nat.beq q.2.2.1 x)
def ab_hit5 (l : List (Nat × Nat × Nat × Nat × Nat)) (o n x y : Nat) : Bool := l.any (fun q => Nat.beq q.1 o && Nat.beq q.2.1 n && Nat.beq q.2.2.1 x && Nat.beq q.2.2.2.1 y)
def ab_hitm (o n x : Nat) : Bool := ab_mp.any (fun q => Nat.beq q.1 o && Nat.beq q.2.1 n && Nat.beq q.2.2.1 x)
def ab_kn (x knd n : Nat) : Bool := match ab_mf[x]? with
  | some q => Nat.beq q.1 knd && Nat.beq q.2.1 n
  | none => false
def ab_lkb (o : Nat) (ini : Bool) (e : Ent) : Bool := match e with
  | (_, i, _, x, y, z, _, c, _) => match i with
    | .getfield n => (Nat.beq x 20 && Nat.beq o 20 && ((Nat.beq n 9 && Nat.beq y 0 && Nat.beq z 2) || (Nat.beq n 15 && Nat.beq y 1 && Nat.beq z 5))) || (ab_hit5 ab_fp o n x y && Nat.beq z ((ab_fts.getD x []).getD y 9))
    | .putfield n => ab_hit5 ab_fp o n x y && Nat.beq z ((ab_fts.getD x []).getD y 9) && (!(ab_T x y).2.2.2 || (ini && Nat.beq x o))
    | .getstatic n => Nat.beq o 20 && ((Nat.beq n 38 && decide (c = .int 1)) || (Nat.beq n 1053 && decide (c = .float 0)))
    | .ldc n => ab_kp.any (fun q => Nat.beq q.1 o && Nat.beq q.2.1 n && decide (c = .int q.2.2.1)) || (Nat.beq o 8 && ((Nat.beq n 78 && decide (c = .ref 1)) || (Nat.beq n 88 && decide (c = .ref 3))))
    | .ldc_w n => ab_kp.any (fun q => Nat.beq q.1 o && Nat.beq q.2.1 n && decide (c = .int q.2.2.1))
    | .ldc2_w n => ab_jp.any (fun q => Nat.beq q.1 o && Nat.beq q.2.1 n && decide (c = .long q.2.2.1))
    | .new n => ab_hit ab_cp o n x && Nat.beq y (ab_fts.getD x []).length
    | .newarray t => (match t with
      | .int => Nat.beq x 13
      | .long => Nat.beq x 14
      | .boolean => Nat.beq x 15
      | _ => false)
    | .anewarray n => ab_hit ab_ap o n x
    | .multianewarray n _ => ab_hit ab_np o n x
    | .checkcast n => ab_hit ab_kc o n 13
    | .iaload => Nat.beq x 13 || Nat.beq x 19
    | .baload => Nat.beq x 15 || Nat.beq x 21
    | .aaload => Nat.beq x 16 || Nat.beq x 17 || Nat.beq x 18
    | .aastore => (Nat.beq x 16 && Nat.beq y 1) || (Nat.beq x 17 && Nat.beq y 9)
    | .arraylength => Nat.beq x 13 || Nat.beq x 19 || Nat.beq x 21
    | .invokevirtual n => Nat.beq x 9999 || (Nat.beq x 9003 && Nat.beq y 1 && ab_hit ab_xp o n 9003) || (Nat.ble (x + 1) 332 && Nat.ble z 30 && ab_hitm o n x && ab_kn x 0 (y - 1) && Nat.ble 1 y && decide (ab_nm z = (ab_y x).cls))
    | .invokespecial n => Nat.beq x 9999 || (Nat.beq x 9001 && Nat.beq y 1 && ab_hit ab_xp o n 9001) || (Nat.ble (x + 1) 332 && Nat.beq z 98 && ab_hitm o n x && ab_kn x 1 (y - 1) && Nat.ble 1 y)
    | .invokestatic n => Nat.beq x 9999 || (Nat.beq x 9002 && Nat.beq y 5 && ab_hit ab_xp o n 9002) || (Nat.ble (x + 1) 332 && Nat.beq z 99 && ab_hitm o n x && ab_kn x 2 y)
    | _ => true
def ab_chn : List Ent → Bool
  | e1 :: e2 :: l => Nat.beq e2.1 (e1.1 + e1.2.2.1) && ab_chn (e2 :: l)
  | _ => true
def ab_ckb (o : Nat) (ini : Bool) (m : MR) : Bool := decide (m.1 = ab_nm o) && (!ini || decide (m.2.1.name = "<init>")) && m.2.2.2.2.2.2.2.all (fun e => ab_okb m.2.2.1 m.2.2.2.1 e && ab_lkb o ini e) && ab_chn m.2.2.2.2.2.2.2 && (match m.2.2.2.2.2.2.2 with
  | e :: _ => Nat.beq e.1 0
  | [] => false)
