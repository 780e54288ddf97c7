/-! AN INTERPRETER OVER RESOLVED INSTRUCTIONS (own work). Values: int, long, reference (0: null, k+1: cell k, -1: the script, -(100+j): String constant j, -(200+j): its bytes, -5: a JDK static that nobody looks into), unset. Memory: shapes of the cells (kind, size, final references), numbers by cell and place. Kinds: 0 int[], 1 long[], 2 boolean[], 3 State[], 4 Text[], 10+c: object of class c of vwCl. -/
abbrev V : Type := Int ⊕ Int ⊕ Int ⊕ Unit
abbrev vI (x : Int) : V := .inl x
abbrev vL (x : Int) : V := .inr (.inl x)
abbrev vR (x : Int) : V := .inr (.inr (.inl x))
abbrev vU : V := .inr (.inr (.inr ()))
abbrev Shp : Type := Nat × Int × List Int
abbrev Mem : Type := List Shp × (Nat → Int → Int)
abbrev Ins : Type := Nat × Nat × Nat × Int
abbrev Res : Type := Option (Option V × Mem)
def w32 (x : Int) : Int := (x + 2147483648) % 4294967296 - 2147483648
def w64 (x : Int) : Int := (x + 9223372036854775808) % 18446744073709551616 - 9223372036854775808
/-- a number is written -/
def up (c : Nat → Int → Int) (k : Nat) (i v : Int) : Nat → Int → Int := fun a j => if a = k then (if j = i then v else c a j) else c a j
/-- a cell begins with zeros -/
def uz (c : Nat → Int → Int) (k : Nat) : Nat → Int → Int := fun a j => if a = k then 0 else c a j
/-- n numbers of cell s from sp on are copied to cell d from dp on -/
def cpy (c : Nat → Int → Int) (s : Nat) (sp : Int) (d : Nat) (dp n : Int) : Nat → Int → Int := fun a j => if a = d then (if dp ≤ j ∧ j < dp + n then c s (sp + (j - dp)) else c a j) else c a j
def drf (L : List Shp) (r : Int) : Option (Nat × Shp) := match r with
  | .ofNat (k + 1) => (L[k]?).elim none (fun s => some (k, s))
  | _ => none
/-- null, or a cell of a kind -/
def trf (L : List Shp) (r : Int) (b : Nat) : Bool := decide (r = 0) || (drf L r).elim false (fun p => Nat.beq p.2.1 b)
def strOf (r : Int) : Option Nat := match r with
  | .negSucc n => bif Nat.ble 99 n && Nat.ble n 110 then some (n - 99) else none
  | _ => none
def bytOf (r : Int) : Option Nat := match r with
  | .negSucc n => bif Nat.ble 199 n && Nat.ble n 210 then some (n - 199) else none
  | _ => none
def tyV (v : V) : Nat := match v with
  | .inl _ => 0
  | .inr (.inl _) => 1
  | .inr (.inr (.inl _)) => 2
  | .inr (.inr (.inr _)) => 3
def iand (x y : Int) : Int := (Int32.ofInt x &&& Int32.ofInt y).toInt
def ior (x y : Int) : Int := (Int32.ofInt x ||| Int32.ofInt y).toInt
def ixor (x y : Int) : Int := (Int32.ofInt x ^^^ Int32.ofInt y).toInt
def ishl (x y : Int) : Int := (Int32.ofInt x <<< (Int32.ofInt y &&& 31)).toInt
def ishr (x y : Int) : Int := (Int32.ofInt x >>> (Int32.ofInt y &&& 31)).toInt
def iushr (x y : Int) : Int := ((Int32.ofInt x).toUInt32 >>> ((Int32.ofInt y).toUInt32 &&& Int32.toUInt32 31)).toInt32.toInt
def ibin (a : Nat) (x y : Int) : Int := match a with
  | 0 => w32 (x + y)
  | 1 => w32 (x - y)
  | 2 => w32 (x * y)
  | 3 => iand x y
  | 4 => ior x y
  | 5 => ixor x y
  | 6 => ishl x y
  | 7 => ishr x y
  | _ => iushr x y
def lbin (a : Nat) (x y : Int) : Int := match a with
  | 0 => w64 (x + y)
  | 1 => w64 (x - y)
  | _ => w64 (x * y)
def arv (a : Nat) (x : Int) : V := match a with
  | 0 => vI x
  | 1 => vL x
  | 2 => vI x
  | _ => vR x
/-- the locals, where a long ahead of a place ends -/
def kil (ls : List V) (a : Nat) : List V := match a with
  | 0 => ls
  | b + 1 => (ls[b]?).elim ls (fun v => bif Nat.beq (tyV v) 1 then ls.set b vU else ls)
def sto (ls : List V) (a b : Nat) (v : V) : List V := bif Nat.beq b 1 then ((kil ls a).set a v).set (a + 1) vU else (kil ls a).set a v
def pu (r : Option V) (st : List V) : List V := match r with
  | none => st
  | some v => v :: st
def cnd {α : Type} (a : Nat) (x y : Int) (t e : α) : α := match a with
  | 0 => if x = y then t else e
  | 1 => if x = y then e else t
  | 2 => if x < y then t else e
  | 3 => if x < y then e else t
  | 4 => if y < x then t else e
  | _ => if y < x then e else t
def swc {α : Type} (x : Int) (J : Nat → α) (d : Nat) : List (Int × Nat) → α
  | [] => J d
  | (v, t) :: l => if x = v then J t else swc x J d l
def swt (a : Nat) : List (Int × Nat) × Nat := match a with
  | 0 => ([(2, 92), (3, 101), (4, 110), (5, 119), (6, 139), (7, 156)], 173)
  | 1 => ([(0, 100), (1, 102), (2, 105)], 108)
  | 2 => ([(0, 44), (1, 53), (2, 71), (3, 97)], 106)
  | 3 => ([(0, 52), (1, 65), (2, 75), (3, 88)], 98)
  | 4 => ([(0, 116), (1, 124), (2, 132), (3, 140), (4, 148), (5, 156), (6, 164), (7, 177), (8, 177), (9, 177), (10, 177), (11, 177), (12, 169)], 177)
  | 5 => ([(0, 32), (1, 35), (2, 37), (3, 40)], 44)
  | 6 => ([(0, 36), (1, 46), (2, 56), (3, 66), (4, 76)], 86)
  | 7 => ([(20, 40), (21, 45), (22, 50), (23, 55), (24, 87), (25, 100)], 113)
  | 8 => ([(0, 56), (1, 62), (2, 81)], 105)
  | 9 => ([(0, 60), (1, 75), (2, 82)], 97)
  | 10 => ([(2, 65), (3, 32), (4, 54), (5, 59)], 109)
  | 11 => ([(0, 72), (1, 79), (2, 86), (3, 93), (4, 98), (5, 105), (6, 113), (7, 118), (8, 125), (9, 132), (10, 139), (11, 146), (12, 154)], 161)
  | 12 => ([(0, 276), (1, 309), (2, 342), (3, 385), (4, 418), (5, 451), (6, 494), (7, 517), (8, 580), (9, 603), (10, 616), (11, 629), (12, 642), (13, 655), (14, 668), (15, 681), (16, 704), (17, 747), (18, 790), (19, 813), (20, 826), (21, 859), (22, 892), (23, 905), (24, 928), (25, 941), (26, 984), (27, 1027), (28, 1050), (29, 1063), (30, 1106), (31, 1119), (32, 1142), (33, 1175), (34, 1198), (35, 1211), (36, 1244), (37, 1267), (38, 1290), (39, 1333), (40, 1346), (41, 1379), (42, 1402), (43, 1416), (44, 1469), (45, 1512), (46, 1545), (47, 1588), (48, 1611), (49, 1644), (50, 1657), (51, 1690), (52, 1723), (53, 1746), (54, 1769), (55, 1792), (56, 1815)], 1828)
  | _ => ([], 0)
def strb (j : Nat) : List Int := match j with
  | 0 => [108, 111, 111, 107, 115, 32, 108, 101, 116, 115, 32, 97, 115, 107, 115, 32, 114, 97, 110, 107, 115, 32, 98, 97, 114, 115]
  | 1 => [112, 97, 105, 110, 116, 32, 115, 99, 114, 97, 112, 101, 32, 99, 111, 112, 121, 32, 116, 111, 117, 99, 104]
  | 2 => [108, 105, 107, 101, 115, 116, 32, 99, 104, 101, 97, 112, 101, 115, 116, 32, 98, 121]
  | 3 => [97, 116]
  | 4 => [119, 105, 116, 104]
  | 5 => [116, 105, 109, 101, 115]
  | 6 => [105, 102]
  | 7 => [111, 114]
  | 8 => [97, 110, 100]
  | 9 => [110, 111, 116]
  | 10 => [121, 101, 97, 114, 115, 32, 117, 110, 108, 105, 107, 101, 32, 109, 111, 110, 101, 121, 32, 99, 111, 112, 105, 101, 115, 32, 97, 103, 101, 32, 100, 111, 110, 101, 32, 116, 111, 110, 101]
  | 11 => [99, 101, 108, 108, 32, 97, 103, 101, 32, 121, 101, 97, 114, 32, 112, 97, 105, 110, 116, 101, 114, 32, 112, 114, 105, 99, 101, 32, 109, 111, 111, 100, 32, 99, 108, 97, 105, 109, 97, 110, 116, 32, 98, 111, 114, 110, 32, 110, 101, 97, 114, 32, 99, 104, 105, 108, 100, 114, 101, 110]
  | _ => []
/-- words on the stack -/
def catS : List V → Nat
  | [] => 0
  | v :: l => (bif Nat.beq (tyV v) 1 then 2 else 1) + catS l
/-- a call's receiver: kinds of calls 0, 1 static, 2, 3 virtual (kind of the cell rk), 4, 5 constructors, 6 of a String -/
def rcv {α : Type} (Z : α) (kd rk : Nat) (L : List Shp) (args : List V) (y : α) : α := match kd, args with
  | 0, _ => y
  | 1, _ => y
  | 2, .inr (.inr (.inl r)) :: _ => (drf L r).elim Z (fun p => bif Nat.beq p.2.1 rk then y else Z)
  | 3, .inr (.inr (.inl r)) :: _ => (drf L r).elim Z (fun p => bif Nat.beq p.2.1 rk then y else Z)
  | 4, .inr (.inr (.inl r)) :: _ => (drf L r).elim Z (fun _ => y)
  | 5, .inr (.inr (.inl r)) :: _ => (drf L r).elim Z (fun _ => y)
  | 6, .inr (.inr (.inl r)) :: _ => (strOf r).elim Z (fun _ => y)
  | _, _ => Z
def pV {α : Type} (Z : α) (st : List V) (f : V → List V → α) : α := match st with
  | v :: st => f v st
  | [] => Z
def pI {α : Type} (Z : α) (st : List V) (f : Int → List V → α) : α := match st with
  | .inl x :: st => f x st
  | _ => Z
def pL {α : Type} (Z : α) (st : List V) (f : Int → List V → α) : α := match st with
  | .inr (.inl x) :: st => f x st
  | _ => Z
def pR {α : Type} (Z : α) (st : List V) (f : Int → List V → α) : α := match st with
  | .inr (.inr (.inl x)) :: st => f x st
  | _ => Z
def pE {α : Type} (Z : α) (st : List V) (y : α) : α := match st with
  | [] => y
  | _ => Z
/-- the cell of a reference -/
def pD {α : Type} (Z : α) (L : List Shp) (r : Int) (f : Nat → Shp → α) : α := (drf L r).elim Z (fun p => f p.1 p.2)
def one1 (v : V) : Bool := Nat.beq (tyV v) 0 || Nat.beq (tyV v) 2
def stp {α : Type} (Z : α) (J : Nat → List V → List V → Mem → α) (C : Nat → List V → List V → List V → Mem → α) (R : Option V → Mem → α) (k : List V → List V → Mem → α) (i : Ins) (ls st : List V) (M : Mem) : α :=
  match i.1 with
  | 0 => k ls (vI i.2.2.2 :: st) M
  | 1 => k ls (vL i.2.2.2 :: st) M
  | 2 => k ls (vR 0 :: st) M
  | 3 => (ls[i.2.1]?).elim Z (fun v => bif Nat.beq (tyV v) i.2.2.1 then k ls (v :: st) M else Z)
  | 4 => pV Z st (fun v st => bif Nat.beq (tyV v) i.2.2.1 then k (sto ls i.2.1 i.2.2.1 v) st M else Z)
  | 5 => pI Z (ls.drop i.2.1) (fun y _ => k (sto ls i.2.1 0 (vI (w32 (y + i.2.2.2)))) st M)
  | 6 => pI Z st (fun y st => pI Z st (fun x st => k ls (vI (ibin i.2.1 x y) :: st) M))
  | 7 => pI Z st (fun x st => k ls (vI (w32 (-x)) :: st) M)
  | 8 => pL Z st (fun y st => pL Z st (fun x st => k ls (vL (lbin i.2.1 x y) :: st) M))
  | 9 => pL Z st (fun y st => pL Z st (fun x st => if x < y then k ls (vI (-1) :: st) M else if x = y then k ls (vI 0 :: st) M else k ls (vI 1 :: st) M))
  | 10 => pI Z st (fun x st => k ls (vL x :: st) M)
  | 11 => pV Z st (fun v st => bif one1 v then k ls (v :: v :: st) M else Z)
  | 12 => pI Z st (fun x st => cnd i.2.1 x 0 (J i.2.2.1 ls st M) (k ls st M))
  | 13 => pI Z st (fun y st => pI Z st (fun x st => cnd i.2.1 x y (J i.2.2.1 ls st M) (k ls st M)))
  | 14 => pR Z st (fun r st => if r = 0 then k ls st M else pD Z M.1 r (fun _ _ => J i.2.2.1 ls st M))
  | 15 => k ls st M
  | 16 => J i.2.2.1 ls st M
  | 17 => pI Z st (fun x st => swc x (fun t => J t ls st M) (swt i.2.1).2 (swt i.2.1).1)
  | 18 => pR Z st (fun r st => pD Z M.1 r (fun p s => bif Nat.beq s.1 (10 + i.2.1) then k ls (vI (M.2 p (Int.ofNat i.2.2.1)) :: st) M else Z))
  | 19 => pR Z st (fun r st => pD Z M.1 r (fun p s => bif Nat.beq s.1 (10 + i.2.1) then k ls (vL (M.2 p (Int.ofNat i.2.2.1)) :: st) M else Z))
  | 20 => pR Z st (fun r st => pD Z M.1 r (fun p s => bif Nat.beq s.1 (10 + i.2.1) then k ls (vI (M.2 p (Int.ofNat i.2.2.1)) :: st) M else Z))
  | 21 => pR Z st (fun r st => pD Z M.1 r (fun _ s => bif Nat.beq s.1 (10 + i.2.1) then k ls (vR (s.2.2.getD i.2.2.1 0) :: st) M else Z))
  | 22 => pI Z st (fun x st => pR Z st (fun r st => pD Z M.1 r (fun p s => bif Nat.beq s.1 (10 + i.2.1) then k ls st (M.1, up M.2 p (Int.ofNat i.2.2.1) x) else Z)))
  | 23 => pL Z st (fun x st => pR Z st (fun r st => pD Z M.1 r (fun p s => bif Nat.beq s.1 (10 + i.2.1) then k ls st (M.1, up M.2 p (Int.ofNat i.2.2.1) x) else Z)))
  | 24 => pI Z st (fun x st => pR Z st (fun r st => pD Z M.1 r (fun p s => bif Nat.beq s.1 (10 + i.2.1) then (if x = 0 ∨ x = 1 then k ls st (M.1, up M.2 p (Int.ofNat i.2.2.1) x) else Z) else Z)))
  | 25 => pR Z st (fun x st => pR Z st (fun r st => pD Z M.1 r (fun p s => bif Nat.beq s.1 (10 + i.2.1) then pD Z M.1 x (fun _ _ => k ls st (M.1.set p (s.1, s.2.1, s.2.2.set i.2.2.1 x), M.2)) else Z)))
  | 26 => pI Z st (fun j st => pR Z st (fun r st => pD Z M.1 r (fun p s => bif Nat.beq s.1 i.2.1 then (if 0 ≤ j ∧ j < s.2.1 then k ls (arv i.2.1 (M.2 p j) :: st) M else Z) else Z)))
  | 27 => pI Z st (fun x st => pI Z st (fun j st => pR Z st (fun r st => pD Z M.1 r (fun p s => bif Nat.beq s.1 0 then (if 0 ≤ j ∧ j < s.2.1 then k ls st (M.1, up M.2 p j x) else Z) else Z))))
  | 28 => pR Z st (fun r st => pD Z M.1 r (fun _ s => bif Nat.ble s.1 4 then k ls (vI s.2.1 :: st) M else Z))
  | 29 => pI Z st (fun j st => pR Z st (fun r st => if r = -1 then (if 0 ≤ j ∧ j < M.2 1000001 0 then k ls (vI (M.2 1000000 j) :: st) M else Z) else Z))
  | 30 => pR Z st (fun r st => if r = -1 then k ls (vI (M.2 1000001 0) :: st) M else Z)
  | 31 => pR Z st (fun r st => (strOf r).elim Z (fun _ => k ls (vR (r - 100) :: st) M))
  | 32 => pR Z st (fun r st => (strOf r).elim Z (fun _ => k ls (vI 0 :: st) M))
  | 33 => pI Z st (fun j st => pR Z st (fun r st => (bytOf r).elim Z (fun n => if 0 ≤ j ∧ j < ((strb n).length : Int) then k ls (vI ((strb n).getD j.toNat 0) :: st) M else Z)))
  | 34 => pR Z st (fun r st => (bytOf r).elim Z (fun n => k ls (vI ((strb n).length : Int) :: st) M))
  | 35 => k ls (vI 1 :: st) M
  | 36 => k ls (vR ((M.1.length : Int) + 1) :: st) (M.1 ++ [(10 + i.2.1, (i.2.2.1 : Int), List.replicate i.2.2.1 0)], uz M.2 M.1.length)
  | 37 => pI Z st (fun n st => if 0 ≤ n ∧ n ≤ 60000000 then k ls (vR ((M.1.length : Int) + 1) :: st) (M.1 ++ [(i.2.1, n, [])], uz M.2 M.1.length) else Z)
  | 38 => pI Z st (fun n st => if 0 ≤ n ∧ n ≤ 60000000 then k ls (vR ((M.1.length : Int) + 1) :: st) (M.1 ++ [(i.2.1, n, [])], uz M.2 M.1.length) else Z)
  | 39 => bif Nat.ble (i.2.1 / 10 % 100) st.length && Nat.ble (catS (st.drop (i.2.1 / 10 % 100))) 8 then rcv Z (i.2.1 % 10) (i.2.1 / 1000) M.1 (st.take (i.2.1 / 10 % 100)).reverse (C i.2.2.1 (st.take (i.2.1 / 10 % 100)).reverse ls (st.drop (i.2.1 / 10 % 100)) M) else Z
  | 40 => pR Z st (fun r st => pD Z M.1 r (fun _ _ => bif Nat.ble (catS st) 8 then k ls st M else Z))
  | 41 => pI Z st (fun n st => pI Z st (fun dp st => pR Z st (fun d st => pI Z st (fun sp st => pR Z st (fun r st => pD Z M.1 r (fun p s => pD Z M.1 d (fun q t => bif Nat.beq s.1 0 && Nat.beq t.1 0 && !Nat.beq p q && Nat.ble (catS st) 8 then (if (0 ≤ sp ∧ 0 ≤ dp ∧ 0 ≤ n) ∧ sp + n ≤ s.2.1 ∧ dp + n ≤ t.2.1 then k ls st (M.1, cpy M.2 p sp q dp n) else Z) else Z)))))))
  | 42 => pE Z st (R none M)
  | 43 => pI Z st (fun y st => pI Z st (fun x st => if y = 0 then Z else k ls (vI (w32 (Int.tdiv x y)) :: st) M))
  | 44 => pI Z st (fun y st => pI Z st (fun x st => if y = 0 then Z else k ls (vI (w32 (Int.tmod x y)) :: st) M))
  | 45 => pL Z st (fun y st => pL Z st (fun x st => if y = 0 then Z else k ls (vL (w64 (Int.tdiv x y)) :: st) M))
  | 46 => pL Z st (fun y st => pL Z st (fun x st => if y = 0 then Z else k ls (vL (w64 (Int.tmod x y)) :: st) M))
  | 47 => k ls (vR (-100 - (i.2.1 : Int)) :: st) M
  | 48 => pL Z st (fun x st => k ls (vI (w32 x) :: st) M)
  | 49 => pI Z st (fun x st => if 0 ≤ x ∧ x < 65536 then k ls (vI x :: st) M else Z)
  | 50 => pV Z st (fun v st => pV Z st (fun w st => bif one1 v && one1 w then k ls (v :: w :: v :: w :: st) M else Z))
  | 51 => pV Z st (fun v st => bif one1 v then k ls st M else Z)
  | 52 => pL Z st (fun x st => pI Z st (fun j st => pR Z st (fun r st => pD Z M.1 r (fun p s => bif Nat.beq s.1 1 then (if 0 ≤ j ∧ j < s.2.1 then k ls st (M.1, up M.2 p j x) else Z) else Z))))
  | 53 => pI Z st (fun x st => pI Z st (fun j st => pR Z st (fun r st => pD Z M.1 r (fun p s => bif Nat.beq s.1 2 then (if 0 ≤ j ∧ j < s.2.1 then (if x = 0 ∨ x = 1 then k ls st (M.1, up M.2 p j x) else Z) else Z) else Z))))
  | 54 => pR Z st (fun x st => pI Z st (fun j st => pR Z st (fun r st => pD Z M.1 r (fun p s => bif Nat.beq s.1 i.2.1 then (if 0 ≤ j ∧ j < s.2.1 then bif trf M.1 x i.2.2.1 then k ls st (M.1, up M.2 p j x) else Z else Z) else Z))))
  | 55 => pI Z st (fun x st => pE Z st (R (some (vI x)) M))
  | 56 => pL Z st (fun x st => pE Z st (R (some (vL x)) M))
  | 57 => pR Z st (fun x st => pE Z st (R (some (vR x)) M))
  | 58 => pI Z st (fun x st => pE Z st (if x = 0 ∨ x = 1 then R (some (vI x)) M else Z))
  | 59 => pI Z st (fun x st => pE Z st (if 0 ≤ x ∧ x < 65536 then R (some (vI x)) M else Z))
  | 60 => pI Z st (fun x st => pE Z st (if -128 ≤ x ∧ x < 128 then R (some (vI x)) M else Z))
  | 61 => k ls (vR (-5) :: st) M
  | 62 => pI Z st (fun x st => bif Nat.ble (catS st) 8 then k ls (vI (if 0 ≤ x then x else w32 (0 - x)) :: st) M else Z)
  | 63 => pI Z st (fun y st => pI Z st (fun x st => bif Nat.ble (catS st) 8 then k ls (vI (if x < y then y else x) :: st) M else Z))
  | 64 => pI Z st (fun y st => pI Z st (fun x st => bif Nat.ble (catS st) 8 then k ls (vI (if y < x then y else x) :: st) M else Z))
  | _ => Z
/-- a row of instructions -/
def runL (J : Nat → List V → List V → Mem → Res) (C : Nat → List V → Mem → Res) : List Ins → List V → List V → Mem → Res
  | [], _, _, _ => none
  | i :: l, ls, st, M => stp (α := Res) none J (fun f args ls st M => (C f args M).elim none (fun q => runL J C l ls (pu q.1 st) q.2)) (fun v M => some (v, M)) (fun ls st M => runL J C l ls st M) i ls st M
/-- the locals that are looked at later -/
def msk : Nat → List V → List V
  | _, [] => []
  | b, v :: l => (bif Nat.beq (b % 2) 1 then v else vU) :: msk (b / 2) l
def fnd (p : Nat) : List (Nat × Nat × List Ins) → Nat × List Ins
  | [] => (0, [])
  | (q, b, l) :: r => bif Nat.beq p q then (b, l) else fnd p r
/-- the locals with which a method begins -/
def mkl (n : Nat) : List V → List V
  | [] => List.replicate n vU
  | v :: l => bif Nat.beq (tyV v) 1 then v :: vU :: mkl (n - 2) l else v :: mkl (n - 1) l
