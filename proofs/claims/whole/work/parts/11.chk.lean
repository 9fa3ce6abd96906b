/-! ===== what a program checks of each method's entries (mine) ===== -/
def ab_hit (l : List (Nat × Nat × Nat × Nat)) (o n x : Nat) : Bool := l.any (fun q => Nat.beq q.1 o && Nat.beq q.2.1 n && Nat.beq q.2.2.1 x)
def ab_hit5 (l : List (Nat × Nat × Nat × Nat × Nat)) (o n x y : Nat) : Bool := l.any (fun q => Nat.beq q.1 o && Nat.beq q.2.1 n && Nat.beq q.2.2.1 x && Nat.beq q.2.2.2.1 y)
def ab_hitm (o n x : Nat) : Bool := ab_mp.any (fun q => Nat.beq q.1 o && Nat.beq q.2.1 n && Nat.beq q.2.2.1 x)
def ab_kn (x knd n : Nat) : Bool := match ab_mf[x]? with
  | some q => Nat.beq q.1 knd && Nat.beq q.2.1 n
  | none => false
def ab_lkb (o : Nat) (ini : Bool) (e : Ent) : Bool := match e with
  | (_, i, _, x, y, z, _, c, _) => match i with
    | .getfield n => (Nat.beq x 20 && Nat.beq o 20 && ((Nat.beq n 9 && Nat.beq y 0 && Nat.beq z 2) || (Nat.beq n 15 && Nat.beq y 1 && Nat.beq z 5))) || (ab_hit5 ab_fp o n x y && Nat.beq z ((ab_fts.getD x []).getD y 9))
    | .putfield n => ab_hit5 ab_fp o n x y && Nat.beq z ((ab_fts.getD x []).getD y 9) && (!(ab_T x y).2.2.2 || (ini && Nat.beq x o))
    | .getstatic n => Nat.beq o 20 && ((Nat.beq n 38 && decide (c = .int 1)) || (Nat.beq n 1053 && decide (c = .float 0)))
    | .ldc n => ab_kp.any (fun q => Nat.beq q.1 o && Nat.beq q.2.1 n && decide (c = .int q.2.2.1)) || (Nat.beq o 8 && ((Nat.beq n 78 && decide (c = .ref 1)) || (Nat.beq n 88 && decide (c = .ref 3))))
    | .ldc_w n => ab_kp.any (fun q => Nat.beq q.1 o && Nat.beq q.2.1 n && decide (c = .int q.2.2.1))
    | .ldc2_w n => ab_jp.any (fun q => Nat.beq q.1 o && Nat.beq q.2.1 n && decide (c = .long q.2.2.1))
    | .new n => ab_hit ab_cp o n x && Nat.beq y (ab_fts.getD x []).length
    | .newarray t => (match t with
      | .int => Nat.beq x 13
      | .long => Nat.beq x 14
      | .boolean => Nat.beq x 15
      | _ => false)
    | .anewarray n => ab_hit ab_ap o n x
    | .multianewarray n _ => ab_hit ab_np o n x
    | .checkcast n => ab_hit ab_kc o n 13
    | .iaload => Nat.beq x 13 || Nat.beq x 19
    | .baload => Nat.beq x 15 || Nat.beq x 21
    | .aaload => Nat.beq x 16 || Nat.beq x 17 || Nat.beq x 18
    | .aastore => (Nat.beq x 16 && Nat.beq y 1) || (Nat.beq x 17 && Nat.beq y 9)
    | .arraylength => Nat.beq x 13 || Nat.beq x 19 || Nat.beq x 21
    | .invokevirtual n => Nat.beq x 9999 || (Nat.beq x 9003 && Nat.beq y 1 && ab_hit ab_xp o n 9003) || (Nat.ble (x + 1) 332 && Nat.ble z 30 && ab_hitm o n x && ab_kn x 0 (y - 1) && Nat.ble 1 y && decide (ab_nm z = (ab_y x).cls))
    | .invokespecial n => Nat.beq x 9999 || (Nat.beq x 9001 && Nat.beq y 1 && ab_hit ab_xp o n 9001) || (Nat.ble (x + 1) 332 && Nat.beq z 98 && ab_hitm o n x && ab_kn x 1 (y - 1) && Nat.ble 1 y)
    | .invokestatic n => Nat.beq x 9999 || (Nat.beq x 9002 && Nat.beq y 5 && ab_hit ab_xp o n 9002) || (Nat.ble (x + 1) 332 && Nat.beq z 99 && ab_hitm o n x && ab_kn x 2 y)
    | _ => true
def ab_chn : List Ent → Bool
  | e1 :: e2 :: l => Nat.beq e2.1 (e1.1 + e1.2.2.1) && ab_chn (e2 :: l)
  | _ => true
def ab_ckb (o : Nat) (ini : Bool) (m : MR) : Bool := decide (m.1 = ab_nm o) && (!ini || decide (m.2.1.name = "<init>")) && m.2.2.2.2.2.2.2.all (fun e => ab_okb m.2.2.1 m.2.2.2.1 e && ab_lkb o ini e) && ab_chn m.2.2.2.2.2.2.2 && (match m.2.2.2.2.2.2.2 with
  | e :: _ => Nat.beq e.1 0
  | [] => false)
