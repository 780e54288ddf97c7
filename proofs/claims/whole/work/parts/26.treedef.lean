/-! TREES counted out (plain operations on numbers, so that the kernel reckons them itself) -/
def dgN (v a : Nat) : Nat := Nat.mod (Nat.shiftRight v (Nat.mul 3 a)) 8
def cfN (v k : Nat) : Nat → Nat → Bool
  | 0, _ => false
  | f + 1, a => bif Nat.beq a 0 then false else bif Nat.beq a k then true else bif Nat.ble k a then false else cfN v k f (dgN v a)
def t8N (v : Nat) : Nat → Nat → Bool
  | 0, a => Nat.beq a 0
  | f + 1, a => bif Nat.beq a 0 then true else t8N v f (dgN v a)
def allN (p : Nat → Bool) : Nat → Bool
  | 0 => true
  | n + 1 => p (Nat.succ n) && allN p n
def lpL (g : Nat → List Nat → List Nat) : Nat → List Nat → List Nat
  | 0, acc => acc
  | m + 1, acc => lpL g m (g m acc)
def dfA (n : Nat) : Nat → Nat → Nat → List Nat → List Nat
  | 0, _, v, acc => v :: acc
  | f + 1, k, v, acc => lpL (fun q acc => bif cfN v k 7 q then acc else dfA n f (Nat.succ k) (Nat.add v (Nat.shiftLeft q (Nat.mul 3 k))) acc) (Nat.succ n) acc
def eixN (a b : Nat) : Nat := bif Nat.ble a b then Nat.add (Nat.mul 7 a) b else Nat.add (Nat.mul 7 b) a
def edgN (a b : Nat) : Nat := Nat.shiftLeft 1 (Nat.mul 7 (eixN a b))
def codN (v : Nat) : Nat → Nat
  | 0 => 0
  | k + 1 => Nat.add (codN v k) (edgN (dgN v (Nat.succ k)) (Nat.succ k))
def rsN (s : Nat) : Nat := Nat.land s (Nat.sub s 1)
def otN (s : Nat) : Nat := rsN (rsN s)
def scN (s : Nat) : Nat := Nat.xor (rsN s) (otN s)
def lowN (s : Nat) : Nat → Nat
  | 0 => 0
  | f + 1 => bif Nat.beq (Nat.mod s 2) 1 then 0 else Nat.succ (lowN (Nat.div s 2) f)
def pr1 (a e : Nat) (acc : List Nat) : List Nat → List Nat
  | [] => acc
  | b :: l => Nat.add (Nat.add a b) e :: pr1 a e acc l
def pr2 (lb : List Nat) (e : Nat) (acc : List Nat) : List Nat → List Nat
  | [] => acc
  | a :: l => pr1 a e (pr2 lb e acc l) lb
def dpA (N : Nat) : Nat → Nat → List Nat → List Nat
  | 0, _, acc => 0 :: acc
  | f + 1, s, acc =>
    bif Nat.beq (rsN s) 0 then 0 :: acc else
    lpL (fun z acc => bif Nat.beq (Nat.land z (otN s)) z then
      lpL (fun x acc => bif Nat.beq (Nat.mod (Nat.shiftRight (Nat.lor z (scN s)) x) 2) 1 then
        pr2 (dpA N f (Nat.xor s (Nat.lor z (scN s))) []) (edgN (lowN s 7) x) acc (dpA N f (Nat.lor z (scN s)) []) else acc) N acc
      else acc) (Nat.succ (otN s)) acc
def mrgN : Nat → List Nat → List Nat → List Nat
  | 0, a, b => a ++ b
  | _ + 1, [], b => b
  | _ + 1, x :: a, [] => x :: a
  | f + 1, x :: a, y :: b => bif Nat.ble x y then x :: mrgN f a (y :: b) else y :: mrgN f (x :: a) b
def mprN : List (List Nat) → List (List Nat)
  | [] => []
  | [a] => [a]
  | a :: b :: l => mrgN 100000 a b :: mprN l
def srtN : Nat → List (List Nat) → List (List Nat)
  | 0, l => l
  | f + 1, l => srtN f (mprN l)
def flN : List (List Nat) → List Nat
  | [] => []
  | a :: l => a ++ flN l
def sgN : List Nat → List (List Nat)
  | [] => []
  | a :: l => [a] :: sgN l
def mpN (f : Nat → Nat) : List Nat → List Nat
  | [] => []
  | a :: l => f a :: mpN f l
def eqN : List Nat → List Nat → Bool
  | [], [] => true
  | x :: a, y :: b => Nat.beq x y && eqN a b
  | _, _ => false
def sorN (l : List Nat) : List Nat := flN (srtN 15 (sgN l))
def alN (p : Nat → Bool) : List Nat → Bool
  | [] => true
  | a :: l => p a && alN p l
def lnN : List Nat → Nat
  | [] => 0
  | _ :: l => Nat.succ (lnN l)
def fiN (p : Nat → Bool) : List Nat → List Nat
  | [] => []
  | a :: l => bif p a then a :: fiN p l else fiN p l
def fmN (f : Nat → List Nat) : List Nat → List Nat
  | [] => []
  | a :: l => f a ++ fmN f l
def kvN (v : Nat) : Nat := Nat.add (bif Nat.beq (dgN v 1) 0 then 1 else 0) (Nat.add (bif Nat.beq (dgN v 2) 0 then 2 else 0) (bif Nat.beq (dgN v 3) 0 then 4 else 0))
def kcN (x : Nat) : Nat := Nat.add (Nat.mod (Nat.shiftRight x 7) 2) (Nat.add (Nat.mul 2 (Nat.mod (Nat.shiftRight x 14) 2)) (Nat.mul 4 (Nat.mod (Nat.shiftRight x 21) 2)))
def chkN (c : Nat) : Bool := eqN (sorN (mpN (fun v => codN v 6) (fmN (fun u => dfA 6 3 4 u []) (fiN (fun v => Nat.beq (kvN v) c) (dfA 6 3 1 0 []))))) (sorN (fiN (fun x => Nat.beq (kcN x) c) (dpA 7 7 127 [])))
