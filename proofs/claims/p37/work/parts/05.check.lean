def lenOf : ClassFile.Instr → Nat
  | .bipush _ => 2
  | .ldc _ => 2
  | .iload _ => 2
  | .lload _ => 2
  | .aload _ => 2
  | .istore _ => 2
  | .lstore _ => 2
  | .astore _ => 2
  | .newarray _ => 2
  | .sipush _ => 3
  | .ldc_w _ => 3
  | .ldc2_w _ => 3
  | .iinc _ _ => 3
  | .ifCond _ _ => 3
  | .if_icmp _ _ => 3
  | .ifnull _ => 3
  | .ifnonnull _ => 3
  | .goto _ => 3
  | .getfield _ => 3
  | .putfield _ => 3
  | .getstatic _ => 3
  | .invokevirtual _ => 3
  | .invokespecial _ => 3
  | .invokestatic _ => 3
  | .new _ => 3
  | .anewarray _ => 3
  | .checkcast _ => 3
  | .multianewarray _ _ => 4
  | _ => 1
def mNm (y : Nat) : MethodName := (mtdL.getD y (⟨"", "", ""⟩, ByteArray.empty, 0, none)).1
def mCd (y : Nat) : ByteArray := bif Nat.beq y m_law then code else (mtdL.getD y (⟨"", "", ""⟩, ByteArray.empty, 0, none)).2.1
def isIni (y : Nat) : Bool := (mNm y).name == "<init>"
def stOK (y a : Nat) : Bool := Nat.blt a (mxL.getD y 0) && (Nat.beq a 0 || !(lngT.contains (y, a - 1)))
def resOK (y pc : Nat) (e : PE) : Bool :=
  let o := mcL.getD y 99
  match e.1 with
  | .iconst n => decide (Int32.ofInt n = e.2.2.2.1)
  | .bipush n => decide ((Int8.ofInt n).toInt32 = e.2.2.2.1)
  | .sipush n => decide ((Int16.ofInt n).toInt32 = e.2.2.2.1)
  | .ldc i => match e.2.1 with
    | 0 => kTab.contains (o, i, e.2.2.2.1)
    | _ + 1 => sTab.contains (o, i, e.2.2.1)
  | .ldc_w i => match e.2.1 with
    | 0 => kTab.contains (o, i, e.2.2.2.1)
    | _ + 1 => sTab.contains (o, i, e.2.2.1)
  | .lconst n => decide (Int64.ofNat n.val = lTab e.2.1)
  | .ldc2_w i => klTab.contains (o, i, e.2.1)
  | .iload_n k => Nat.beq k.val e.2.1
  | .iload k => Nat.beq k e.2.1
  | .lload_n k => Nat.beq k.val e.2.1
  | .lload k => Nat.beq k e.2.1
  | .aload_n k => Nat.beq k.val e.2.1
  | .aload k => Nat.beq k e.2.1
  | .istore_n k => Nat.beq k.val e.2.1 && stOK y e.2.1
  | .istore k => Nat.beq k e.2.1 && stOK y e.2.1
  | .astore_n k => Nat.beq k.val e.2.1 && stOK y e.2.1
  | .astore k => Nat.beq k e.2.1 && stOK y e.2.1
  | .lstore_n k => Nat.beq k.val e.2.1 && stOK y e.2.1 && Nat.blt (e.2.1 + 1) (mxL.getD y 0) && lngT.contains (y, e.2.1)
  | .lstore k => Nat.beq k e.2.1 && stOK y e.2.1 && Nat.blt (e.2.1 + 1) (mxL.getD y 0) && lngT.contains (y, e.2.1)
  | .iinc k n => Nat.beq k e.2.1 && stOK y e.2.1 && decide (Int32.ofInt n = e.2.2.2.1)
  | .ifCond _ off => decide ((pc : Int) + off = (e.2.1 : Int))
  | .if_icmp _ off => decide ((pc : Int) + off = (e.2.1 : Int))
  | .ifnull off => decide ((pc : Int) + off = (e.2.1 : Int))
  | .ifnonnull off => decide ((pc : Int) + off = (e.2.1 : Int))
  | .goto off => decide ((pc : Int) + off = (e.2.1 : Int))
  | .tableswitch d lo hi offs => decide ((pc : Int) + d = (e.2.1 : Int)) && decide (e.2.2.2.1.toInt = lo) && decide (lo + (e.2.2.2.2.length : Int) = hi + 1) && decide (offs.toList.map (fun q => (pc : Int) + q) = e.2.2.2.2.map (fun (t : Nat) => Int.ofNat t)) && decide (0 ≤ lo) && decide (hi < 1000)
  | .getfield i => fTab.contains (o, i, e.2.1, e.2.2.1) && Nat.blt e.2.2.1 (nfL.getD e.2.1 0) && Nat.blt e.2.1 14
  | .putfield i => fTab.contains (o, i, e.2.1, e.2.2.1) && Nat.blt e.2.2.1 (nfL.getD e.2.1 0) && (Nat.blt e.2.1 13 || (Nat.beq e.2.1 13 && !(e.2.2.2.2.isEmpty))) && (!((fnL.getD e.2.1 []).getD e.2.2.1 true) || (isIni y && Nat.beq o e.2.1))
  | .getstatic i => match e.2.1 with
    | 0 => gsTab.contains (o, i, 0) && decide (e.2.2.2.1 = 1)
    | 1 => gsTab.contains (o, i, 1) && Nat.beq e.2.2.1 142
    | _ => gsTab.contains (o, i, 2) && Nat.beq e.2.2.1 143
  | .newarray t => match e.2.1 with
    | 0 => decide (t = .int)
    | _ + 1 => decide (t = .byte)
  | .multianewarray i n => Nat.beq o 18 && Nat.beq i 37 && Nat.beq n 2
  | .anewarray i => nTab.contains (o, i, eCl e.2.1) && Nat.ble 22 e.2.1 && Nat.blt e.2.1 27
  | .new i => nTab.contains (o, i, e.2.1) && Nat.blt e.2.1 14
  | .invokespecial i => match e.2.2.1 with
    | 0 => oiTab.contains (o, i)
    | n + 1 => mTab.contains (o, i, e.2.1) && Nat.beq (naL.getD e.2.1 0) (n + 1) && !(stL.getD e.2.1 true) && (isIni e.2.1 || (!(isIni e.2.1) && Nat.beq o 12 && Nat.beq (mcL.getD e.2.1 99) 19))
  | .invokevirtual i => match e.2.2.2.2 with
    | [_] => Nat.beq o 17 && Nat.beq i 316
    | _ :: _ :: _ => Nat.beq o 17 && Nat.beq i 310
    | [] => Nat.beq (naL.getD e.2.1 0) (e.2.2.1 + 1) && !(stL.getD e.2.1 true) && !(isIni e.2.1) && ((mTab.contains (o, i, e.2.1) && Nat.blt (mcL.getD e.2.1 99) 14) || ((mTab.contains (o, i, e.2.1) && Nat.beq (mcL.getD e.2.1 99) 19 && !(Nat.beq o 12)) || uTab.contains (o, i, e.2.1)))
  | .invokestatic i => match e.2.2.1 with
    | 9 => acTab.contains (o, i)
    | 10 => acTab.contains (o, i)
    | 8 => ciTab.contains (o, i)
    | n => mTab.contains (o, i, e.2.1) && Nat.beq (naL.getD e.2.1 0) n && stL.getD e.2.1 false
  | .iaload => Nat.beq e.2.1 20 || Nat.beq e.2.1 19
  | .aaload => Nat.beq e.2.1 0 || (Nat.beq e.2.1 26 || Nat.beq e.2.1 27)
  | .aastore => Nat.beq e.2.1 0 || Nat.beq e.2.1 26
  | .lreturn => Nat.beq (rkL.getD y 9) 5
  | .areturn => Nat.beq (rkL.getD y 9) 6
  | .return_ => Nat.beq (rkL.getD y 9) 0
  | .checkcast i => match e.2.1 with
    | 0 => Nat.beq o 17 && Nat.beq i 317
    | _ + 1 => Nat.beq o 17 && Nat.beq i 311
  | _ => true
def okAt (y pc : Nat) : Bool := match prog y pc with
  | none => true
  | some e => match decode (mCd y) pc with
    | .ok (i, n) => decide (i = e.1) && (Nat.beq n (lenOf i) || (match i with | .tableswitch _ _ _ _ => true | _ => false)) && resOK y pc e
    | _ => false
def okR (lo n y : Nat) : Bool := (List.range' lo n).all (okAt y)
