/-! What texts, formulas, events and states are, in numbers and lists. -/
abbrev Tx : Type := List Int32
def jnV (sg x y : Int32) : Int32 := if sg = 43 then x + y else if sg = 45 then x - y else if sg = 42 then x * y else if sg = 47 then (if y = 0 then 0 else x / y) else if sg = 37 then (if y = 0 then 0 else x - x / y * y)
  else if sg = 60 then b32 (x < y) else if sg = 61 then b32 (x = y) else b32 (y < x)
/-- one step of a code over a stack (its top first) -/
def stV (env : Nat → Int32) (c : Int32) (st : Tx) : Tx :=
  if 0 ≤ c then (if c < 10000 then c else env (c.toInt - 10000).toNat) :: st
  else if c = -1000 then (match st with
    | x :: s => -x :: s
    | [] => [])
  else (match st with
    | y :: x :: s => jnV (-c) x y :: s
    | s => s)
def evV (env : Nat → Int32) (c st : Tx) : Tx := c.foldl (fun st x => stV env x st) st
def valV (env : Nat → Int32) (c : Tx) : Int32 := (evV env c []).headD 0
/-- how deep the stack is behind a code; none: it passes M or is too shallow -/
def dpV (M : Nat) : Tx → Nat → Option Nat
  | [], d => some d
  | x :: xs, d => if 0 ≤ x then (if d < M then dpV M xs (d + 1) else none) else if x = -1000 then (if 1 ≤ d then dpV M xs d else none) else (if 2 ≤ d then dpV M xs (d - 1) else none)
/-- what may stand in a code whose letters are nv -/
def okE (nv : Nat) (x : Int32) : Prop := (0 ≤ x.toInt ∧ x.toInt < 10000 + nv) ∨ x = -1000 ∨ x = -43 ∨ x = -45 ∨ x = -42 ∨ x = -47 ∨ x = -37 ∨ x = -60 ∨ x = -61 ∨ x = -62
def cWF (nv : Nat) (c : Tx) : Prop := (∀ x ∈ c, okE nv x) ∧ dpV 32 c 0 = some 1 ∧ c.length ≤ 160
/-- the reference's form of a code -/
def encE (x : Int32) : Tx := if 0 ≤ x then (if x < 10000 then [1, x] else [2, x - 10000]) else if x = -1000 then [3] else [-x]
def encV (c : Tx) : Tx := c.flatMap encE
def env3 (a b s : Int32) : Nat → Int32 := fun i => match i with
  | 0 => a
  | 1 => b
  | _ => s
def env5 (o k h p v : Int32) : Nat → Int32 := fun i => match i with
  | 0 => o
  | 1 => k
  | 2 => h
  | 3 => p
  | _ => v
/-! texts: what stands before the place, and where they fail (how many bytes were left) -/
abbrev PR (α : Type) : Type := (α × Tx) ⊕ Nat
def bnd {α β : Type} (r : PR α) (f : α → Tx → PR β) : PR β := match r with
  | .inl (a, s) => f a s
  | .inr m => .inr m
def tkP (c : Int32) (s : Tx) : PR Unit := match s with
  | x :: t => if x = c then .inl ((), t) else .inr (t.length + 1)
  | [] => .inr 0
def lowB (x : Int32) : Bool := decide (97 ≤ x) && decide (x ≤ 122)
def wdOf (s : Tx) : Tx := s.takeWhile lowB
def wdP (ws : List Tx) (s : Tx) : PR Nat := match ws.findIdx? (fun w => decide (w = wdOf s)) with
  | some k => .inl (k, s.drop (wdOf s).length)
  | none => .inr s.length
def digB (x : Int32) : Bool := decide (48 ≤ x) && decide (x ≤ 57)
def dgOf (s : Tx) : Tx := (s.take 4).takeWhile digB
def dgV (ds : Tx) : Int := ds.foldl (fun v x => v * 10 + (x.toInt - 48)) 0
def nbP (most : Int) (s : Tx) : PR Int := if dgOf s = [] ∨ most < dgV (dgOf s) then .inr s.length else .inl (dgV (dgOf s), s.drop (dgOf s).length)
def kindW : List Tx := [[111, 112, 101, 110, 101, 100], [112, 117, 116], [116, 97, 107, 101, 110], [104, 101, 108, 100], [102, 114, 101, 101, 100], [112, 114, 105, 99, 101, 100], [115, 101, 110, 116], [103, 111, 116], [99, 108, 111, 115, 101, 100]]
def kinaW : List Tx := kindW ++ [[97, 108, 108]]
def verbW : List Tx := [[111, 112, 101, 110], [112, 117, 116], [116, 97, 107, 101], [104, 111, 108, 100], [102, 114, 101, 101], [112, 114, 105, 99, 101], [115, 101, 110, 100], [99, 108, 111, 115, 101]]
def foldW : List Tx := [[115, 117, 109], [99, 111, 117, 110, 116], [109, 111, 115, 116], [108, 101, 97, 115, 116], [102, 105, 114, 115, 116], [108, 97, 115, 116]]
def keyW : List Tx := [[115, 116, 114, 101, 97, 109], [107, 105, 110, 100], [110, 111, 110, 101]]
def kdL : Nat → Int32 → Tx → PR Int32
  | 0, m, s => .inl (m, s)
  | n + 1, m, s => match s with
    | x :: t => if x = 43 then bnd (wdP kindW t) (fun k s => kdL n (m ||| ((1 : Int32) <<< z32 (k : Int))) s) else .inl (m, s)
    | [] => .inl (m, s)
def kdP (s : Tx) : PR Int32 := bnd (wdP kinaW s) (fun k s => if k = 9 then .inl (511, s) else kdL 160 ((1 : Int32) <<< z32 (k : Int)) s)
/-- a C: of a level (0 compared, 1 sum, 2 product, 3 operand), with brackets open around it; letters -/
def sgB (lv : Nat) (x : Int32) : Bool := match lv with
  | 0 => decide (x = 60) || decide (x = 61) || decide (x = 62)
  | 1 => decide (x = 43) || decide (x = 45)
  | _ => decide (x = 42) || decide (x = 47) || decide (x = 37)
def lpP (X : Tx → PR Tx) (lv : Nat) : Nat → Tx → Tx → PR Tx
  | 0, c, s => .inl (c, s)
  | n + 1, c, s => match s with
    | x :: t => if sgB lv x then bnd (X t) (fun c2 s2 => lpP X lv n (c ++ (c2 ++ [-x])) s2) else .inl (c, s)
    | [] => .inl (c, s)
def ixS (l : Tx) (x : Int32) : Option Nat := l.findIdx? (fun v => decide (v = x))
def ltE (q : Nat) (t : Tx) : PR Tx := match t with
  | y :: u => if lowB y = true then .inr (u.length + 2) else .inl ([z32 (10000 + (q : Int))], y :: u)
  | [] => .inl ([z32 (10000 + (q : Int))], [])
def ltP (vs s : Tx) : PR Tx := match s with
  | x :: t => (match ixS vs x with
    | some k => ltE k t
    | none => .inr (t.length + 1))
  | [] => .inr 0
def opP0 (vs : Tx) (X0 X3 : Tx → PR Tx) (op : Nat) (s : Tx) : PR Tx := match s with
  | x :: t => if digB x then bnd (nbP 9999 (x :: t)) (fun v s => .inl ([z32 v], s))
    else if x = 45 then (if 6 ≤ op then .inr (t.length + 1) else bnd (X3 t) (fun c s => .inl (c ++ [-1000], s)))
    else if x = 40 then (if 6 ≤ op then .inr (t.length + 1) else bnd (X0 t) (fun c s => bnd (tkP 41 s) (fun _ s => .inl (c, s))))
    else ltP vs (x :: t)
  | [] => .inr 0
/-- by what is left of brackets: q (6 less those open), and of levels -/
def xP (vs : Tx) : Nat → Nat → Nat → Tx → PR Tx
  | 0, _, _, s => .inr s.length
  | n + 1, op, lv, s => if 3 ≤ lv then opP0 vs (xP vs n (op + 1) 0) (xP vs n (op + 1) 3) op s
    else bnd (xP vs n op (lv + 1) s) (fun c s => lpP (xP vs n op (lv + 1)) lv (if lv = 0 then 1 else 160) c s)
/-- steps that suffice -/
def xN (op lv : Nat) : Nat := 4 * (6 - op) + (4 - lv)
def cP (vs : Tx) (op : Nat) (s : Tx) : PR Tx := xP vs (xN op 0) op 0 s
def absV : Tx := [97, 98, 115]
def okhV : Tx := [111, 107, 104, 112, 118]
/-- a command: kind, amount, target, the C of a policy's n -/
abbrev Cm : Type := Nat × Int × Nat × Option Tx
def cmA (pol : Bool) (s : Tx) : PR (Int × Option Tx) := match pol && decide (s.head? = some 40) with
    | true => bnd (cP absV 1 (s.drop 1)) (fun c s => bnd (tkP 41 s) (fun _ s => .inl (((0 : Int), some c), s)))
    | false => bnd (nbP 999 s) (fun v s => .inl ((v, none), s))
def cmT (k : Nat) (s : Tx) : PR Int := if k = 6 then bnd (tkP 32 s) (fun _ s => bnd (wdP [[116, 111]] s) (fun _ s => bnd (tkP 32 s) (fun _ s => nbP 7 s))) else .inl (0, s)
def cmP (pol : Bool) (s : Tx) : PR Cm := bnd (wdP verbW s) (fun k s => if k = 7 then .inl ((8, 0, 0, none), s) else bnd (tkP 32 s) (fun _ s =>
  bnd (cmA pol s) (fun am s => bnd (cmT k s) (fun t s => .inl ((k, am.1, t.toNat, am.2), s)))))
def lnP (s : Tx) : PR (Nat × Cm) := bnd (nbP 7 s) (fun v s => bnd (tkP 58 s) (fun _ s => bnd (cmP false s) (fun c s => .inl ((v.toNat, c), s))))
def lnsP : Nat → List (Nat × Cm) → Tx → PR (List (Nat × Cm))
  | 0, l, s => .inl (l, s)
  | n + 1, l, s => bnd (lnP s) (fun c s => match s with
    | x :: t => if x = 59 then lnsP n (l ++ [c]) t else .inl (l ++ [c], s)
    | [] => .inl (l ++ [c], s))
def upP (s : Tx) : PR (Nat × Tx × Tx) := bnd (wdP kindW s) (fun k s => bnd (tkP 58 s) (fun _ s => bnd (cP absV 0 s) (fun a s => bnd (tkP 44 s) (fun _ s => bnd (cP absV 0 s) (fun b s => .inl ((k, a, b), s))))))
/-- fold, kinds, key, condition -/
def pjI (s : Tx) : PR Tx := match s with
  | x :: t => if x = 32 then bnd (wdP [[105, 102]] t) (fun _ s => bnd (tkP 32 s) (fun _ s => cP absV 0 s)) else .inl ([1], x :: t)
  | [] => .inl ([1], [])
def pjP (s : Tx) : PR (Nat × Int32 × Nat × Tx) := bnd (wdP foldW s) (fun f s => bnd (tkP 32 s) (fun _ s => bnd (wdP [[111, 102]] s) (fun _ s => bnd (tkP 32 s) (fun _ s => bnd (kdP s) (fun m s => bnd (tkP 32 s) (fun _ s => bnd (wdP [[98, 121]] s) (fun _ s => bnd (tkP 32 s) (fun _ s => bnd (wdP keyW s) (fun y s =>
  bnd (pjI s) (fun c s => .inl ((f, m, y, c), s)))))))))))
def plI (w : Nat) (s : Tx) : PR Tx := if w = 0 then bnd (tkP 32 s) (fun _ s => bnd (cP absV 0 s) (fun c s => bnd (tkP 32 s) (fun _ s => bnd (wdP [[100, 111]] s) (fun _ s => .inl (c, s))))) else .inl ([1], s)
def plP (s : Tx) : PR (Int32 × Tx × Cm) := bnd (wdP [[111, 110]] s) (fun _ s => bnd (tkP 32 s) (fun _ s => bnd (kdP s) (fun m s => bnd (tkP 32 s) (fun _ s =>
  bnd (wdP [[105, 102], [100, 111]] s) (fun w s => bnd (plI w s) (fun c s => bnd (tkP 32 s) (fun _ s => bnd (cmP true s) (fun k s => .inl ((m, c, k), s)))))))))
/-- the whole tape is that text -/
def allP {α : Type} (T : Tx) (r : PR α) : α ⊕ Nat := match r with
  | .inl (a, []) => .inl a
  | .inl (_, x :: s) => .inr (T.length - (s.length + 1))
  | .inr m => .inr (T.length - m)
/-! events, states -/
/-- stream, version, kind, format, A, B -/
abbrev EV : Type := Nat × Nat × Nat × Nat × Int32 × Int32
abbrev eS (e : EV) : Nat := e.1
abbrev eV (e : EV) : Nat := e.2.1
abbrev eK (e : EV) : Nat := e.2.2.1
abbrev eF (e : EV) : Nat := e.2.2.2.1
abbrev eA (e : EV) : Int32 := e.2.2.2.2.1
abbrev eB (e : EV) : Int32 := e.2.2.2.2.2
abbrev CF : Type := Nat → List (Tx × Tx)
def rdL (s : Nat) (l : List (Tx × Tx)) (ab : Int32 × Int32) : Int32 × Int32 := l.foldl (fun ab c => (valV (env3 ab.1 ab.2 (z32 s)) c.1, valV (env3 ab.1 ab.2 (z32 s)) c.2)) ab
def rdE (C : CF) (e : EV) : Int32 × Int32 := rdL (eS e) ((C (eK e)).drop (eF e - 1)) (eA e, eB e)
/-- OPEN, STOCK, HELD, PRICE -/
abbrev S4 : Type := Int32 × Int32 × Int32 × Int32
def s4 (w : Nat) (x : S4) : Int32 := match w with
  | 0 => x.1
  | 1 => x.2.1
  | 2 => x.2.2.1
  | _ => x.2.2.2
def chg (k : Nat) (a : Int32) (x : S4) : S4 := match k with
  | 0 => (1, x.2.1, x.2.2.1, a)
  | 1 => (x.1, x.2.1 + a, x.2.2.1, x.2.2.2)
  | 2 => (x.1, x.2.1 - a, x.2.2.1, x.2.2.2)
  | 3 => (x.1, x.2.1, x.2.2.1 + a, x.2.2.2)
  | 4 => (x.1, x.2.1, x.2.2.1 - a, x.2.2.2)
  | 5 => (x.1, x.2.1, x.2.2.1, a)
  | 6 => (x.1, x.2.1 - a, x.2.2.1, x.2.2.2)
  | 7 => (x.1, x.2.1 + a, x.2.2.1, x.2.2.2)
  | _ => (2, x.2.1, x.2.2.1, x.2.2.2)
def stE (C : CF) (s : Nat) (x : S4) (e : EV) : S4 := if eS e = s then chg (eK e) (rdE C e).1 x else x
def stF (C : CF) (L : List EV) (s : Nat) : S4 := L.foldl (stE C s) (0, 0, 0, 0)
def vrS (L : List EV) (s : Nat) : Nat := (L.filter (fun e => decide (eS e = s))).length
