/-! PURE MACHINE: the bytecode read by one function over a typed memory of places. Sound over the kit's machine (part sound); all else is proved of it. -/
abbrev PV : Type := Int32 ⊕ (Option Nat ⊕ (Int64 ⊕ Unit))
abbrev vI (x : Int32) : PV := .inl x
abbrev vR (r : Option Nat) : PV := .inr (.inl r)
abbrev vL (z : Int64) : PV := .inr (.inr (.inl z))
abbrev vT : PV := .inr (.inr (.inr ()))
/-- places in use, slots in use, kind, length, whole numbers, references -/
abbrev PM : Type := Nat × Nat × (Nat → Nat) × (Nat → Nat) × (Nat → Nat → Int32) × (Nat → Nat → Option Nat)
abbrev pSz (M : PM) : Nat := M.1
abbrev pSl (M : PM) : Nat := M.2.1
abbrev pKd (M : PM) : Nat → Nat := M.2.2.1
abbrev pLn (M : PM) : Nat → Nat := M.2.2.2.1
abbrev pI (M : PM) : Nat → Nat → Int32 := M.2.2.2.2.1
abbrev pR (M : PM) : Nat → Nat → Option Nat := M.2.2.2.2.2
def up1 {α : Type} (f : Nat → α) (a : Nat) (v : α) : Nat → α := fun b => if b = a then v else f b
def up2 {α : Type} (f : Nat → Nat → α) (a j : Nat) (v : α) : Nat → Nat → α := fun b k => if b = a ∧ k = j then v else f b k
def upr {α : Type} (f : Nat → Nat → α) (a : Nat) (v : α) : Nat → Nat → α := fun b k => if b = a then v else f b k
def cpI (f : Nat → Nat → Int32) (a b sp dp n : Nat) : Nat → Nat → Int32 := fun q k => if q = b ∧ dp ≤ k ∧ k < dp + n then f a (sp + (k - dp)) else f q k
def setI (M : PM) (a j : Nat) (v : Int32) : PM := (pSz M, pSl M, pKd M, pLn M, up2 (pI M) a j v, pR M)
def setR (M : PM) (a j : Nat) (v : Option Nat) : PM := (pSz M, pSl M, pKd M, pLn M, pI M, up2 (pR M) a j v)
def mkN (M : PM) (c n : Nat) : PM := (pSz M + 1, pSl M + n, up1 (pKd M) (pSz M) c, up1 (pLn M) (pSz M) n, upr (pI M) (pSz M) 0, upr (pR M) (pSz M) none)
/-- an array of arrays of ints: the outer one, and behind it the inner ones -/
def mkG (M : PM) (n k : Nat) : PM := (pSz M + (1 + n), pSl M + (n + n * k), fun b => if b = pSz M then 27 else if pSz M < b ∧ b < pSz M + (1 + n) then 20 else pKd M b, fun b => if b = pSz M then n else if pSz M < b ∧ b < pSz M + (1 + n) then k else pLn M b,
  fun b j => if pSz M ≤ b ∧ b < pSz M + (1 + n) then 0 else pI M b j, fun b j => if b = pSz M then (if j < n then some (pSz M + 1 + j) else none) else if pSz M < b ∧ b < pSz M + (1 + n) then none else pR M b j)
def cpyM (M : PM) (a b sp dp n : Nat) : PM := (pSz M, pSl M, pKd M, pLn M, cpI (pI M) a b sp dp n, pR M)
abbrev kInt : Nat := 20
abbrev kByt : Nat := 21
/-- the script's kind: it is read alone -/
abbrev kScr : Nat := 19
def notL (v : PV) : Bool := match v with
  | .inl _ => true
  | .inr (.inl _) => true
  | _ => false
/-- so many arguments lie on the stack, none of them long -/
def okC (n : Nat) (st : List PV) : Bool := Nat.beq (st.take n).length n && (st.take n).all notL
/-- an index within a length -/
abbrev inB (i : Int32) (n : Nat) : Prop := 0 ≤ i.toInt ∧ i.toInt < (n : Int)
abbrev ixN (i : Int32) : Nat := i.toInt.toNat
def onR {ρ : Type} (fl : ρ) (r : Option Nat) (k : Nat → ρ) : ρ := match r with
  | none => fl
  | some a => k a
def cOk (c : ClassFile.Cond) (x y : Int32) : Prop := match c with
  | .eq => x = y
  | .ne => ¬ x = y
  | .lt => x < y
  | .ge => y ≤ x
  | .gt => y < x
  | .le => x ≤ y
def cDec (c : ClassFile.Cond) (x y : Int32) : Decidable (cOk c x y) := match c with
  | .eq => inferInstanceAs (Decidable (x = y))
  | .ne => inferInstanceAs (Decidable (¬ x = y))
  | .lt => inferInstanceAs (Decidable (x < y))
  | .ge => inferInstanceAs (Decidable (y ≤ x))
  | .gt => inferInstanceAs (Decidable (y < x))
  | .le => inferInstanceAs (Decidable (x ≤ y))
def lTab (a : Nat) : Int64 := match a with
  | 0 => 0
  | 1 => 1
  | 2 => 10
  | 3 => 1000000000
  | 4 => 4294967295
  | 5 => -1
  | 6 => -9223372036854775808
  | _ => -9223372036854775708
def lcmpV (x y : Int64) : Int32 := if y < x then 1 else if x = y then 0 else -1
/-- what may be returned by a method of this kind: 1 int, 2 boolean, 3 char, 4 byte -/
def rOk (rk : Nat) (v : Int32) : Prop := match rk with
  | 1 => True
  | 2 => v = 0 ∨ v = 1
  | 3 => (v.toUInt32 % 65536).toInt32 = v
  | 4 => v.toInt8.toInt32 = v
  | _ => False
def rDec (rk : Nat) (v : Int32) : Decidable (rOk rk v) := match rk with
  | 0 => inferInstanceAs (Decidable False)
  | 1 => inferInstanceAs (Decidable True)
  | 2 => inferInstanceAs (Decidable (v = 0 ∨ v = 1))
  | 3 => inferInstanceAs (Decidable ((v.toUInt32 % 65536).toInt32 = v))
  | 4 => inferInstanceAs (Decidable (v.toInt8.toInt32 = v))
  | _ + 5 => inferInstanceAs (Decidable False)
/-- the class of what an array of references of this kind holds -/
def eCl (k : Nat) : Nat := match k with
  | 22 => 4
  | 23 => 2
  | 24 => 7
  | 26 => 13
  | _ => 6
def tsw {ρ : Type} (br : (c : Prop) → Decidable c → ρ → ρ → ρ) (nx : Nat → ρ) (x : Int32) (dflt : Nat) : Int32 → List Nat → ρ
  | _, [] => nx dflt
  | lo, t :: ts => br (x = lo) inferInstance (nx t) (tsw br nx x dflt (lo + 1) ts)
/-- an instruction, with what its entry stands for: two numbers and a whole number (see the part of the tables) -/
abbrev PE : Type := ClassFile.Instr × Nat × Nat × Int32 × List Nat
/-- the classes' numbers of fields; which field of a class is a reference, a boolean -/
abbrev PF : Type := (Nat → Nat) × (Nat → Nat → Nat)
def op {ρ : Type} (fl : ρ) (ts : (c : Prop) → Decidable c → ρ → ρ) (br : (c : Prop) → Decidable c → ρ → ρ → ρ) (nx : Nat → List PV → List PV → PM → ρ) (rt : Option PV → PM → ρ)
    (cl : Nat → List PV → PM → Nat → List PV → List PV → ρ) (X : PF) (mc : Nat → Nat) (d rk : Nat) (e : PE) (pc : Nat) (ls st : List PV) (M : PM) : ρ :=
  match e.1 with
  | .iconst _ => nx (pc + 1) ls (vI e.2.2.2.1 :: st) M
  | .bipush _ => nx (pc + 2) ls (vI e.2.2.2.1 :: st) M
  | .sipush _ => nx (pc + 3) ls (vI e.2.2.2.1 :: st) M
  | .ldc _ => match e.2.1 with
    | 0 => nx (pc + 2) ls (vI e.2.2.2.1 :: st) M
    | _ + 1 => nx (pc + 2) ls (vR (some e.2.2.1) :: st) M
  | .ldc_w _ => match e.2.1 with
    | 0 => nx (pc + 3) ls (vI e.2.2.2.1 :: st) M
    | _ + 1 => nx (pc + 3) ls (vR (some e.2.2.1) :: st) M
  | .lconst _ => nx (pc + 1) ls (vL (lTab e.2.1) :: st) M
  | .ldc2_w _ => nx (pc + 3) ls (vL (lTab e.2.1) :: st) M
  | .aconst_null => nx (pc + 1) ls (vR none :: st) M
  | .iload_n _ => match ls[e.2.1]? with
    | some (.inl x) => nx (pc + 1) ls (vI x :: st) M
    | _ => fl
  | .iload _ => match ls[e.2.1]? with
    | some (.inl x) => nx (pc + 2) ls (vI x :: st) M
    | _ => fl
  | .lload_n _ => match ls[e.2.1]? with
    | some (.inr (.inr (.inl x))) => nx (pc + 1) ls (vL x :: st) M
    | _ => fl
  | .lload _ => match ls[e.2.1]? with
    | some (.inr (.inr (.inl x))) => nx (pc + 2) ls (vL x :: st) M
    | _ => fl
  | .aload_n _ => match ls[e.2.1]? with
    | some (.inr (.inl x)) => nx (pc + 1) ls (vR x :: st) M
    | _ => fl
  | .aload _ => match ls[e.2.1]? with
    | some (.inr (.inl x)) => nx (pc + 2) ls (vR x :: st) M
    | _ => fl
  | .istore_n _ => match st with
    | .inl x :: st => nx (pc + 1) (ls.set e.2.1 (vI x)) st M
    | _ => fl
  | .istore _ => match st with
    | .inl x :: st => nx (pc + 2) (ls.set e.2.1 (vI x)) st M
    | _ => fl
  | .lstore_n _ => match st with
    | .inr (.inr (.inl x)) :: st => nx (pc + 1) ((ls.set e.2.1 (vL x)).set (e.2.1 + 1) vT) st M
    | _ => fl
  | .lstore _ => match st with
    | .inr (.inr (.inl x)) :: st => nx (pc + 2) ((ls.set e.2.1 (vL x)).set (e.2.1 + 1) vT) st M
    | _ => fl
  | .astore_n _ => match st with
    | .inr (.inl x) :: st => nx (pc + 1) (ls.set e.2.1 (vR x)) st M
    | _ => fl
  | .astore _ => match st with
    | .inr (.inl x) :: st => nx (pc + 2) (ls.set e.2.1 (vR x)) st M
    | _ => fl
  | .iinc _ _ => match ls[e.2.1]? with
    | some (.inl x) => nx (pc + 3) (ls.set e.2.1 (vI (x + e.2.2.2.1))) st M
    | _ => fl
  | .iadd => match st with
    | .inl y :: .inl x :: st => nx (pc + 1) ls (vI (x + y) :: st) M
    | _ => fl
  | .isub => match st with
    | .inl y :: .inl x :: st => nx (pc + 1) ls (vI (x - y) :: st) M
    | _ => fl
  | .imul => match st with
    | .inl y :: .inl x :: st => nx (pc + 1) ls (vI (x * y) :: st) M
    | _ => fl
  | .iand => match st with
    | .inl y :: .inl x :: st => nx (pc + 1) ls (vI (x &&& y) :: st) M
    | _ => fl
  | .ior => match st with
    | .inl y :: .inl x :: st => nx (pc + 1) ls (vI (x ||| y) :: st) M
    | _ => fl
  | .idiv => match st with
    | .inl y :: .inl x :: st => ts (¬ y = 0) inferInstance (nx (pc + 1) ls (vI (x / y) :: st) M)
    | _ => fl
  | .irem => match st with
    | .inl y :: .inl x :: st => ts (¬ y = 0) inferInstance (nx (pc + 1) ls (vI (x - x / y * y) :: st) M)
    | _ => fl
  | .ineg => match st with
    | .inl x :: st => nx (pc + 1) ls (vI (-x) :: st) M
    | _ => fl
  | .ishl => match st with
    | .inl y :: .inl x :: st => nx (pc + 1) ls (vI (x <<< y) :: st) M
    | _ => fl
  | .ishr => match st with
    | .inl y :: .inl x :: st => nx (pc + 1) ls (vI (x >>> y) :: st) M
    | _ => fl
  | .iushr => match st with
    | .inl y :: .inl x :: st => nx (pc + 1) ls (vI (x.toUInt32 >>> (y.toUInt32 &&& Int32.toUInt32 31)).toInt32 :: st) M
    | _ => fl
  | .i2l => match st with
    | .inl x :: st => nx (pc + 1) ls (vL x.toInt64 :: st) M
    | _ => fl
  | .l2i => match st with
    | .inr (.inr (.inl x)) :: st => nx (pc + 1) ls (vI x.toInt32 :: st) M
    | _ => fl
  | .i2c => match st with
    | .inl x :: st => nx (pc + 1) ls (vI (x.toUInt32 % 65536).toInt32 :: st) M
    | _ => fl
  | .i2b => match st with
    | .inl x :: st => nx (pc + 1) ls (vI x.toInt8.toInt32 :: st) M
    | _ => fl
  | .ladd => match st with
    | .inr (.inr (.inl y)) :: .inr (.inr (.inl x)) :: st => nx (pc + 1) ls (vL (x + y) :: st) M
    | _ => fl
  | .lsub => match st with
    | .inr (.inr (.inl y)) :: .inr (.inr (.inl x)) :: st => nx (pc + 1) ls (vL (x - y) :: st) M
    | _ => fl
  | .lmul => match st with
    | .inr (.inr (.inl y)) :: .inr (.inr (.inl x)) :: st => nx (pc + 1) ls (vL (x * y) :: st) M
    | _ => fl
  | .land => match st with
    | .inr (.inr (.inl y)) :: .inr (.inr (.inl x)) :: st => nx (pc + 1) ls (vL (x &&& y) :: st) M
    | _ => fl
  | .ldiv => match st with
    | .inr (.inr (.inl y)) :: .inr (.inr (.inl x)) :: st => ts (¬ y = 0) inferInstance (nx (pc + 1) ls (vL (x / y) :: st) M)
    | _ => fl
  | .lrem => match st with
    | .inr (.inr (.inl y)) :: .inr (.inr (.inl x)) :: st => ts (¬ y = 0) inferInstance (nx (pc + 1) ls (vL (x - x / y * y) :: st) M)
    | _ => fl
  | .lneg => match st with
    | .inr (.inr (.inl x)) :: st => nx (pc + 1) ls (vL (-x) :: st) M
    | _ => fl
  | .lcmp => match st with
    | .inr (.inr (.inl y)) :: .inr (.inr (.inl x)) :: st => nx (pc + 1) ls (vI (lcmpV x y) :: st) M
    | _ => fl
  | .ifCond c _ => match st with
    | .inl x :: st => br (cOk c x 0) (cDec c x 0) (nx e.2.1 ls st M) (nx (pc + 3) ls st M)
    | _ => fl
  | .if_icmp c _ => match st with
    | .inl y :: .inl x :: st => br (cOk c x y) (cDec c x y) (nx e.2.1 ls st M) (nx (pc + 3) ls st M)
    | _ => fl
  | .ifnull _ => match st with
    | .inr (.inl r) :: st => br (r = none) inferInstance (nx e.2.1 ls st M) (nx (pc + 3) ls st M)
    | _ => fl
  | .ifnonnull _ => match st with
    | .inr (.inl r) :: st => br (r = none) inferInstance (nx (pc + 3) ls st M) (nx e.2.1 ls st M)
    | _ => fl
  | .goto _ => nx e.2.1 ls st M
  | .tableswitch _ _ _ _ => match st with
    | .inl x :: st => tsw br (fun t => nx t ls st M) x e.2.1 e.2.2.2.1 e.2.2.2.2
    | _ => fl
  | .dup => match st with
    | .inl x :: st => nx (pc + 1) ls (vI x :: vI x :: st) M
    | .inr (.inl r) :: st => nx (pc + 1) ls (vR r :: vR r :: st) M
    | _ => fl
  | .dup2 => match st with
    | .inl y :: .inr (.inl r) :: st => nx (pc + 1) ls (vI y :: vR r :: vI y :: vR r :: st) M
    | _ => fl
  | .pop => match st with
    | .inl _ :: st => nx (pc + 1) ls st M
    | .inr (.inl _) :: st => nx (pc + 1) ls st M
    | _ => fl
  | .getfield _ => match st with
    | .inr (.inl r) :: st => onR fl r fun a => ts (pKd M a = e.2.1) inferInstance (match X.2 e.2.1 e.2.2.1 with
      | 1 => nx (pc + 3) ls (vR (pR M a e.2.2.1) :: st) M
      | _ => nx (pc + 3) ls (vI (pI M a e.2.2.1) :: st) M)
    | _ => fl
  | .putfield _ => match st with
    | .inr (.inl v) :: .inr (.inl r) :: st => onR fl r fun a => ts (pKd M a = e.2.1) inferInstance (match X.2 e.2.1 e.2.2.1 with
      | 1 => (match e.2.2.2.2 with
        | [] => nx (pc + 3) ls st (setR M a e.2.2.1 v)
        | _ :: _ => ts (159 ≤ a) inferInstance (nx (pc + 3) ls st (setR M a e.2.2.1 v)))
      | _ => fl)
    | .inl v :: .inr (.inl r) :: st => onR fl r fun a => ts (pKd M a = e.2.1) inferInstance (match X.2 e.2.1 e.2.2.1 with
      | 0 => nx (pc + 3) ls st (setI M a e.2.2.1 v)
      | 2 => ts (v = 0 ∨ v = 1) inferInstance (nx (pc + 3) ls st (setI M a e.2.2.1 v))
      | 3 => ts (v.toInt8.toInt32 = v) inferInstance (match e.2.2.2.2 with
        | [] => nx (pc + 3) ls st (setI M a e.2.2.1 v)
        | _ :: _ => ts (159 ≤ a) inferInstance (nx (pc + 3) ls st (setI M a e.2.2.1 v)))
      | _ => fl)
    | _ => fl
  | .getstatic _ => match e.2.1 with
    | 0 => nx (pc + 3) ls (vI e.2.2.2.1 :: st) M
    | _ + 1 => nx (pc + 3) ls (vR (some e.2.2.1) :: st) M
  | .iaload => match st with
    | .inl i :: .inr (.inl r) :: st => onR fl r fun a => ts (pKd M a = e.2.1) inferInstance (ts (inB i (pLn M a)) inferInstance (nx (pc + 1) ls (vI (pI M a (ixN i)) :: st) M))
    | _ => fl
  | .baload => match st with
    | .inl i :: .inr (.inl r) :: st => onR fl r fun a => ts (pKd M a = kByt) inferInstance (ts (inB i (pLn M a)) inferInstance (nx (pc + 1) ls (vI (pI M a (ixN i)) :: st) M))
    | _ => fl
  | .bastore => match st with
    | .inl v :: .inl i :: .inr (.inl r) :: st => onR fl r fun a => ts (pKd M a = kByt ∧ 159 ≤ a) inferInstance (ts (inB i (pLn M a)) inferInstance (nx (pc + 1) ls st (setI M a (ixN i) v.toInt8.toInt32)))
    | _ => fl
  | .iastore => match st with
    | .inl v :: .inl i :: .inr (.inl r) :: st => onR fl r fun a => ts (pKd M a = kInt) inferInstance (ts (inB i (pLn M a)) inferInstance (nx (pc + 1) ls st (setI M a (ixN i) v)))
    | _ => fl
  | .aaload => match st with
    | .inl i :: .inr (.inl r) :: st => (match e.2.1 with
      | 0 => onR fl r fun a => ts (22 ≤ pKd M a ∧ pKd M a < 26) inferInstance (ts (inB i (pLn M a)) inferInstance (nx (pc + 1) ls (vR (pR M a (ixN i)) :: st) M))
      | k + 1 => onR fl r fun a => ts (pKd M a = k + 1) inferInstance (ts (inB i (pLn M a)) inferInstance (nx (pc + 1) ls (vR (pR M a (ixN i)) :: st) M)))
    | _ => fl
  | .aastore => match st with
    | .inr (.inl v) :: .inl i :: .inr (.inl r) :: st => (match e.2.1 with
      | 0 => onR fl r fun a => ts (22 ≤ pKd M a ∧ pKd M a < 26) inferInstance (ts (inB i (pLn M a)) inferInstance
        (ts (∀ b, v = some b → pKd M b = eCl (pKd M a)) (match v with
          | none => isTrue (fun _ h => nomatch h)
          | some b => decidable_of_iff (pKd M b = eCl (pKd M a)) ⟨fun h _ e => by cases e; exact h, fun h => h b rfl⟩) (nx (pc + 1) ls st (setR M a (ixN i) v))))
      | _ + 1 => onR fl r fun a => onR fl v fun b => ts (pKd M a = 26 ∧ pKd M b = 13) inferInstance (ts (inB i (pLn M a)) inferInstance (nx (pc + 1) ls st (setR M a (ixN i) (some b)))))
    | _ => fl
  | .arraylength => match st with
    | .inr (.inl r) :: st => onR fl r fun a => ts (19 ≤ pKd M a ∧ pKd M a < 26) inferInstance (nx (pc + 1) ls (vI (Int32.ofNat (pLn M a)) :: st) M)
    | _ => fl
  | .newarray _ => match st with
    | .inl n :: st => (match e.2.1 with
      | 0 => ts (0 ≤ n.toInt ∧ n.toInt ≤ 100000) inferInstance (nx (pc + 2) ls (vR (some (pSz M)) :: st) (mkN M kInt (ixN n)))
      | _ + 1 => ts (0 ≤ n.toInt ∧ n.toInt ≤ 100000) inferInstance (nx (pc + 2) ls (vR (some (pSz M)) :: st) (mkN M kByt (ixN n))))
    | _ => fl
  | .multianewarray _ _ => match st with
    | .inl k :: .inl n :: st => ts (0 ≤ n.toInt ∧ n.toInt ≤ 1000 ∧ 0 ≤ k.toInt ∧ k.toInt ≤ 1000) inferInstance (nx (pc + 4) ls (vR (some (pSz M)) :: st) (mkG M (ixN n) (ixN k)))
    | _ => fl
  | .anewarray _ => match st with
    | .inl n :: st => ts (0 ≤ n.toInt ∧ n.toInt ≤ 100000) inferInstance (nx (pc + 3) ls (vR (some (pSz M)) :: st) (mkN M e.2.1 (ixN n)))
    | _ => fl
  | .new _ => nx (pc + 3) ls (vR (some (pSz M)) :: st) (mkN M e.2.1 (X.1 e.2.1))
  | .invokespecial _ => match e.2.2.1 with
    | 0 => match d, st with
      | _ + 1, .inr (.inl r) :: st => (match Nat.ble st.length 4 with
        | true => onR fl r fun _ => nx (pc + 3) ls st M
        | false => fl)
      | _, _ => fl
    | n + 1 => match okC n st with
      | true => (match st.drop n with
        | .inr (.inl r) :: st' => (match Nat.ble st'.length 4 with
          | true => onR fl r fun a => ts (pKd M a = mc e.2.1) inferInstance (cl e.2.1 (vR (some a) :: (st.take n).reverse) M (pc + 3) ls st')
          | false => fl)
        | _ => fl)
      | false => fl
  | .invokevirtual _ => match e.2.2.2.2 with
    | [_] => match d, st with
      | _ + 1, .inr (.inl r) :: st => (match Nat.ble st.length 4 with
        | true => onR fl r fun a => ts (pKd M a = kInt) inferInstance (nx (pc + 3) ls (vR (some (pSz M)) :: st) (cpyM (mkN M kInt (pLn M a)) a (pSz M) 0 0 (pLn M a)))
        | false => fl)
      | _, _ => fl
    | _ :: _ :: _ => match d, st with
      | _ + 1, .inr (.inl r) :: st => (match Nat.ble st.length 4 with
        | true => onR fl r fun a => ts (pKd M a = kByt ∧ 159 ≤ a) inferInstance (nx (pc + 3) ls (vR (some (pSz M)) :: st) (cpyM (mkN M kByt (pLn M a)) a (pSz M) 0 0 (pLn M a)))
        | false => fl)
      | _, _ => fl
    | [] => match okC e.2.2.1 st with
      | true => (match st.drop e.2.2.1 with
        | .inr (.inl r) :: st' => (match Nat.ble st'.length 4 with
          | true => onR fl r fun a => ts (pKd M a = mc e.2.1) inferInstance (cl e.2.1 (vR (some a) :: (st.take e.2.2.1).reverse) M (pc + 3) ls st')
          | false => fl)
        | _ => fl)
      | false => fl
  | .invokestatic _ => match e.2.2.1 with
    | 9 => match d, st with
      | _ + 1, .inl n :: .inl dp :: .inr (.inl rd) :: .inl sp :: .inr (.inl rs) :: st => (match Nat.ble st.length 4 with
        | true => onR fl rs fun a => onR fl rd fun b => ts (pKd M a = kInt ∧ pKd M b = kInt) inferInstance
          (ts (0 ≤ sp.toInt ∧ 0 ≤ dp.toInt ∧ 0 ≤ n.toInt ∧ sp.toInt + n.toInt ≤ pLn M a ∧ dp.toInt + n.toInt ≤ pLn M b) inferInstance (nx (pc + 3) ls st (cpyM M a b (ixN sp) (ixN dp) (ixN n))))
        | false => fl)
      | _, _ => fl
    | 10 => match d, st with
      | _ + 1, .inl n :: .inl dp :: .inr (.inl rd) :: .inl sp :: .inr (.inl rs) :: st => (match Nat.ble st.length 4 with
        | true => onR fl rs fun a => onR fl rd fun b => ts (pKd M a = kByt ∧ pKd M b = kByt ∧ 159 ≤ b) inferInstance
          (ts (0 ≤ sp.toInt ∧ 0 ≤ dp.toInt ∧ 0 ≤ n.toInt ∧ sp.toInt + n.toInt ≤ pLn M a ∧ dp.toInt + n.toInt ≤ pLn M b) inferInstance (nx (pc + 3) ls st (cpyM M a b (ixN sp) (ixN dp) (ixN n))))
        | false => fl)
      | _, _ => fl
    | 8 => match d, st with
      | _ + 2, .inl n :: .inl i :: st => (match Nat.ble st.length 4 with
        | true => ts (0 ≤ i.toInt ∧ i.toInt < n.toInt) inferInstance (nx (pc + 3) ls st M)
        | false => fl)
      | _, _ => fl
    | n => match okC n st with
      | true => (match Nat.ble (st.drop n).length 4 with
        | true => cl e.2.1 (st.take n).reverse M (pc + 3) ls (st.drop n)
        | false => fl)
      | false => fl
  | .checkcast _ => match st with
    | .inr (.inl r) :: st => (match e.2.1 with
      | 0 => onR fl r fun a => ts (pKd M a = kInt) inferInstance (nx (pc + 3) ls (vR (some a) :: st) M)
      | _ + 1 => onR fl r fun a => ts (pKd M a = kByt ∧ 159 ≤ a) inferInstance (nx (pc + 3) ls (vR (some a) :: st) M))
    | _ => fl
  | .ireturn => match st with
    | [.inl v] => ts (rOk rk v) (rDec rk v) (rt (some (vI v)) M)
    | _ => fl
  | .lreturn => match st with
    | [.inr (.inr (.inl v))] => rt (some (vL v)) M
    | _ => fl
  | .areturn => match st with
    | [.inr (.inl v)] => rt (some (vR v)) M
    | _ => fl
  | .return_ => match st with
    | [] => rt none M
    | _ => fl
  | _ => fl
/-- next, returned, or a call: method, arguments, memory, and where it goes on -/
abbrev OUT : Type := Option ((Nat × List PV × List PV × PM) ⊕ ((Option PV × PM) ⊕ (Nat × List PV × PM × Nat × List PV × List PV)))
def opF (X : PF) (mc : Nat → Nat) (d rk : Nat) (e : PE) (pc : Nat) (ls st : List PV) (M : PM) : OUT :=
  op (ρ := OUT) none (fun c i r => @ite _ c i r none) (fun c i a b => @ite _ c i a b) (fun pc ls st M => some (.inl (pc, ls, st, M))) (fun v M => some (.inr (.inl (v, M)))) (fun y as M pc ls st => some (.inr (.inr (y, as, M, pc, ls, st)))) X mc d rk e pc ls st M
def opP (X : PF) (mc : Nat → Nat) (nx : Nat → List PV → List PV → PM → Prop) (rt : Option PV → PM → Prop) (cl : Nat → List PV → PM → Nat → List PV → List PV → Prop) (d rk : Nat) (e : PE) (pc : Nat) (ls st : List PV) (M : PM) : Prop :=
  op (ρ := Prop) False (fun c _ r => c ∧ r) (fun c _ a b => (c → a) ∧ (¬ c → b)) nx rt cl X mc d rk e pc ls st M
def satO (nx : Nat → List PV → List PV → PM → Prop) (rt : Option PV → PM → Prop) (cl : Nat → List PV → PM → Nat → List PV → List PV → Prop) (o : OUT) : Prop := match o with
  | none => False
  | some (.inl (pc, ls, st, M)) => nx pc ls st M
  | some (.inr (.inl (v, M))) => rt v M
  | some (.inr (.inr (y, as, M, pc, ls, st))) => cl y as M pc ls st
section
variable {nx : Nat → List PV → List PV → PM → Prop} {rt : Option PV → PM → Prop} {cl : Nat → List PV → PM → Nat → List PV → List PV → Prop}
theorem sat_ts {c : Prop} {i : Decidable c} {p : Prop} {o : OUT} (h : p → satO nx rt cl o) (hp : c ∧ p) : satO nx rt cl (@ite _ c i o none) := by
  rw [if_pos hp.1]
  exact h hp.2
theorem sat_br {c : Prop} {i : Decidable c} {p q : Prop} {o o2 : OUT} (h : p → satO nx rt cl o) (h2 : q → satO nx rt cl o2) (hp : (c → p) ∧ (¬ c → q)) : satO nx rt cl (@ite _ c i o o2) := by
  by_cases hc : c
  · rw [if_pos hc]
    exact h (hp.1 hc)
  · rw [if_neg hc]
    exact h2 (hp.2 hc)
theorem sat_onR {r : Option Nat} {k : Nat → Prop} {k2 : Nat → OUT} (h : ∀ a, k a → satO nx rt cl (k2 a)) (hp : onR False r k) : satO nx rt cl (onR none r k2) := by
  cases r with
  | none => exact hp.elim
  | some a => exact h a hp
theorem sat_tsw {ls st : List PV} {M : PM} {x : Int32} {dflt : Nat} : ∀ (l : List Nat) (lo : Int32), tsw (ρ := Prop) (fun c _ a b => (c → a) ∧ (¬ c → b)) (fun t => nx t ls st M) x dflt lo l →
    satO nx rt cl (tsw (ρ := OUT) (fun c i a b => @ite _ c i a b) (fun t => some (.inl (t, ls, st, M))) x dflt lo l)
  | [], _, h => h
  | _ :: ts, lo, h => sat_br (fun h => h) (fun h => sat_tsw ts (lo + 1) h) h
set_option maxHeartbeats 4000000 in
theorem op_sat (X : PF) (mc : Nat → Nat) (d rk : Nat) (e : PE) (pc : Nat) (ls st : List PV) (M : PM) (h : opP X mc nx rt cl d rk e pc ls st M) : satO nx rt cl (opF X mc d rk e pc ls st M) := by
  unfold opP at h
  unfold opF
  unfold op at h ⊢
  obtain ⟨i, a, b, z, l⟩ := e
  cases i
  all_goals first
    | exact h.elim
    | exact h
    | (dsimp only at h ⊢
       repeat' split at h
       all_goals first
         | exact h.elim
         | exact h
         | exact sat_br (fun h => h) (fun h => h) h
         | exact sat_ts (fun h => h) h
         | exact sat_ts (fun h => sat_ts (fun h => h) h) h
         | exact sat_tsw _ _ h
         | exact sat_onR (fun a h => h) h
         | exact sat_onR (fun a h => sat_ts (fun h => h) h) h
         | exact sat_onR (fun a h => sat_ts (fun h => sat_ts (fun h => h) h) h) h
         | exact sat_onR (fun a h => sat_ts (fun h => sat_ts (fun h => sat_ts (fun h => h) h) h) h) h
         | exact sat_onR (fun a h => sat_onR (fun b h => sat_ts (fun h => sat_ts (fun h => h) h) h) h) h
         | (refine sat_onR (fun a h => sat_ts (fun h => ?_) h) h
            repeat' split at h
            all_goals first
              | exact h.elim
              | exact h
              | exact sat_ts (fun h => h) h
              | exact sat_ts (fun h => sat_ts (fun h => h) h) h
              | (refine sat_ts (fun h => ?_) h
                 repeat' split at h
                 all_goals first
                   | exact h.elim
                   | exact h
                   | exact sat_ts (fun h => h) h)))
end
/-- code: method, place in its bytes; what each returns; its locals; its class; the classes' fields -/
abbrev PG : Type := (Nat → Nat → Option PE) × (Nat → Nat) × (Nat → Nat) × (Nat → Nat) × PF
def locE (G : PG) (y : Nat) (as : List PV) : List PV := as ++ List.replicate (G.2.2.1 y - as.length) vT
def exec (G : PG) : Nat → Nat → Nat → Nat → List PV → List PV → PM → Option (Option PV × PM)
  | 0, _, _, _, _, _, _ => none
  | n + 1, d, y, pc, ls, st, M => match G.1 y pc with
    | none => none
    | some e => match opF G.2.2.2.2 G.2.2.2.1 d (G.2.1 y) e pc ls st M with
      | none => none
      | some (.inl (pc', ls', st', M')) => exec G n d y pc' ls' st' M'
      | some (.inr (.inl r)) => some r
      | some (.inr (.inr (y', as, M', pc', ls', st'))) => match d with
        | 0 => none
        | d' + 1 => match exec G n d' y' 0 (locE G y' as) [] M' with
          | none => none
          | some (v, M2) => exec G n (d' + 1) y pc' ls' (v.toList ++ st') M2
theorem exec_mono (G : PG) : ∀ (n d y pc : Nat) (ls st : List PV) (M : PM) (r : Option PV × PM), exec G n d y pc ls st M = some r → exec G (n + 1) d y pc ls st M = some r := by
  intro n
  induction n with
  | zero => intro d y pc ls st M r h; cases h
  | succ n ih =>
    intro d y pc ls st M r h
    unfold exec at h ⊢
    cases hc : G.1 y pc with
    | none => rw [hc] at h; cases h
    | some e =>
      rw [hc] at h
      dsimp only at h ⊢
      cases ho : opF G.2.2.2.2 G.2.2.2.1 d (G.2.1 y) e pc ls st M with
      | none => rw [ho] at h; cases h
      | some o =>
        rw [ho] at h
        try dsimp only at h ⊢
        obtain ⟨pc', ls', st', M'⟩ | r' | ⟨y', as, M', pc', ls', st'⟩ := o
        · exact ih _ _ _ _ _ _ _ h
        · exact h
        · cases d with
          | zero => cases h
          | succ d' =>
            dsimp only at h ⊢
            cases hr : exec G n d' y' 0 (locE G y' as) [] M' with
            | none => rw [hr] at h; cases h
            | some q =>
              rw [hr] at h
              rw [ih _ _ _ _ _ _ _ hr]
              exact ih _ _ _ _ _ _ _ h
theorem exec_le (G : PG) {n k d y pc : Nat} {ls st : List PV} {M : PM} {r : Option PV × PM} (h : exec G n d y pc ls st M = some r) : exec G (n + k) d y pc ls st M = some r := by
  induction k with
  | zero => exact h
  | succ k ih => exact exec_mono G _ _ _ _ _ _ _ _ ih
/-- from here the method comes to its end, and there Q holds -/
def Wp (G : PG) (d y pc : Nat) (ls st : List PV) (M : PM) (Q : Option PV → PM → Prop) : Prop := ∃ n v M', exec G n d y pc ls st M = some (v, M') ∧ Q v M'
/-- a call -/
def Mt (G : PG) (d y : Nat) (as : List PV) (M : PM) (Q : Option PV → PM → Prop) : Prop := Wp G d y 0 (locE G y as) [] M Q
theorem Wp.mono {G : PG} {d y pc : Nat} {ls st : List PV} {M : PM} {Q Q2 : Option PV → PM → Prop} (h : Wp G d y pc ls st M Q) (hq : ∀ v M', Q v M' → Q2 v M') : Wp G d y pc ls st M Q2 := by
  obtain ⟨n, v, M', h1, h2⟩ := h
  exact ⟨n, v, M', h1, hq v M' h2⟩
theorem Mt.mono {G : PG} {d y : Nat} {as : List PV} {M : PM} {Q Q2 : Option PV → PM → Prop} (h : Mt G d y as M Q) (hq : ∀ v M', Q v M' → Q2 v M') : Mt G d y as M Q2 := Wp.mono h hq
def clP (G : PG) (d y : Nat) (Q : Option PV → PM → Prop) (y' : Nat) (as : List PV) (M : PM) (pc : Nat) (ls st : List PV) : Prop := match d with
  | 0 => False
  | d' + 1 => Mt G d' y' as M fun v M2 => Wp G (d' + 1) y pc ls (v.toList ++ st) M2 Q
theorem satO_mono {nx nx2 : Nat → List PV → List PV → PM → Prop} {rt rt2 : Option PV → PM → Prop} {cl cl2 : Nat → List PV → PM → Nat → List PV → List PV → Prop} {o : OUT} (h : satO nx rt cl o) (h1 : ∀ pc ls st M, nx pc ls st M → nx2 pc ls st M) (h2 : ∀ v M, rt v M → rt2 v M)
    (h3 : ∀ y as M pc ls st, cl y as M pc ls st → cl2 y as M pc ls st) : satO nx2 rt2 cl2 o := by
  cases o with
  | none => exact h
  | some o =>
    obtain ⟨pc', ls', st', M'⟩ | ⟨v, M'⟩ | ⟨y', as, M', pc', ls', st'⟩ := o
    · exact h1 _ _ _ _ h
    · exact h2 _ _ h
    · exact h3 _ _ _ _ _ _ h
theorem Wp_sat {G : PG} {d y pc : Nat} {ls st : List PV} {M : PM} {Q : Option PV → PM → Prop} {e : PE} (hc : G.1 y pc = some e)
    (h2 : satO (fun pc ls st M => Wp G d y pc ls st M Q) Q (clP G d y Q) (opF G.2.2.2.2 G.2.2.2.1 d (G.2.1 y) e pc ls st M)) : Wp G d y pc ls st M Q := by
  cases ho : opF G.2.2.2.2 G.2.2.2.1 d (G.2.1 y) e pc ls st M with
  | none => rw [ho] at h2; exact h2.elim
  | some o =>
    rw [ho] at h2
    obtain ⟨pc', ls', st', M'⟩ | ⟨v, M'⟩ | ⟨y', as, M', pc', ls', st'⟩ := o
    · obtain ⟨n, v, M2, h3, h4⟩ := h2
      refine ⟨n + 1, v, M2, ?_, h4⟩
      unfold exec
      rw [hc]
      dsimp only
      rw [ho]
      exact h3
    · refine ⟨1, v, M', ?_, h2⟩
      unfold exec
      rw [hc]
      dsimp only
      rw [ho]
    · cases d with
      | zero => exact (show False from h2).elim
      | succ d' =>
        obtain ⟨n1, v1, M1, h3, n2, v2, M2, h4, h5⟩ := (show Mt G d' y' as M' (fun v M2 => Wp G (d' + 1) y pc' ls' (v.toList ++ st') M2 Q) from h2)
        refine ⟨n1 + n2 + 1, v2, M2, ?_, h5⟩
        unfold exec
        rw [hc]
        dsimp only
        rw [ho]
        dsimp only
        rw [exec_le G (k := n2) h3]
        dsimp only
        rw [Nat.add_comm n1 n2]
        exact exec_le G (k := n1) h4
theorem Wp_step {G : PG} {d y pc : Nat} {ls st : List PV} {M : PM} {Q : Option PV → PM → Prop} {e : PE} (hc : G.1 y pc = some e)
    (h : opP G.2.2.2.2 G.2.2.2.1 (fun pc ls st M => Wp G d y pc ls st M Q) Q (clP G d y Q) d (G.2.1 y) e pc ls st M) : Wp G d y pc ls st M Q := Wp_sat hc (op_sat _ _ _ _ _ _ _ _ _ h)
/-- some steps at once, up to the places that 'cut' names -/
def runP (G : PG) (cut : Nat → Bool) (Q : Option PV → PM → Prop) (d y : Nat) : Nat → Nat → List PV → List PV → PM → Prop
  | 0, pc, ls, st, M => Wp G d y pc ls st M Q
  | k + 1, pc, ls, st, M => match G.1 y pc with
    | none => False
    | some e => opP G.2.2.2.2 G.2.2.2.1 (fun pc' ls' st' M' => match cut pc' with
        | true => Wp G d y pc' ls' st' M' Q
        | false => runP G cut Q d y k pc' ls' st' M') Q
        (fun y' as M' pc' ls' st' => match d with
        | 0 => False
        | d' + 1 => Mt G d' y' as M' fun v M2 => match cut pc' with
          | true => Wp G (d' + 1) y pc' ls' (v.toList ++ st') M2 Q
          | false => runP G cut Q (d' + 1) y k pc' ls' (v.toList ++ st') M2) d (G.2.1 y) e pc ls st M
theorem runP_ok (G : PG) (cut : Nat → Bool) (y : Nat) : ∀ (k d : Nat) (Q : Option PV → PM → Prop) (pc : Nat) (ls st : List PV) (M : PM), runP G cut Q d y k pc ls st M → Wp G d y pc ls st M Q := by
  intro k
  induction k with
  | zero => intro d Q pc ls st M h; exact h
  | succ k ih =>
    intro d Q pc ls st M h
    unfold runP at h
    cases hc : G.1 y pc with
    | none => rw [hc] at h; exact h.elim
    | some e =>
      rw [hc] at h
      refine Wp_sat hc (satO_mono (op_sat _ _ _ _ _ _ _ _ _ h) (fun pc' ls' st' M' h => ?_) (fun _ _ h => h) (fun y' as M' pc' ls' st' h => ?_))
      · try dsimp only at h
        split at h
        · exact h
        · exact ih _ _ _ _ _ _ h
      · cases d with
        | zero => exact h
        | succ d' =>
          refine Mt.mono (show Mt G d' y' as M' _ from h) (fun v M2 h => ?_)
          try dsimp only at h
          split at h
          · exact h
          · exact ih _ _ _ _ _ _ h
/-- a stretch of code at once: what it does, said as a formula -/
theorem Wp_run {G : PG} {d y pc : Nat} {ls st : List PV} {M : PM} {Q : Option PV → PM → Prop} (cut : Nat → Bool) (k : Nat) (h : runP G cut Q d y k pc ls st M) : Wp G d y pc ls st M Q := runP_ok G cut y k d Q pc ls st M h
