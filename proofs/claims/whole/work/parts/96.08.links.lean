/-! decided: what the lists of links say -/
def lkFc (w : Nat) (q : Nat × Nat × Nat × Nat) : Bool := decide (tbw q.2.2.2 = some (Cond.fieldLink (rnm w) q.1 (tnm q.2.1 q.2.2.1).1 (tnm q.2.1 q.2.2.1).2.1 (tnm q.2.1 q.2.2.1).2.2.1))
set_option maxRecDepth 100000 in
theorem lkF_ok_0 : (lkF 0).all (lkFc 0) = true := by decide +kernel
set_option maxRecDepth 100000 in
theorem lkF_ok_1 : (lkF 1).all (lkFc 1) = true := by decide +kernel
set_option maxRecDepth 100000 in
theorem lkF_ok_2 : (lkF 2).all (lkFc 2) = true := by decide +kernel
set_option maxRecDepth 100000 in
theorem lkF_ok_3 : (lkF 3).all (lkFc 3) = true := by decide +kernel
set_option maxRecDepth 100000 in
theorem lkF_ok_4 : (lkF 4).all (lkFc 4) = true := by decide +kernel
set_option maxRecDepth 100000 in
theorem lkF_ok_5 : (lkF 5).all (lkFc 5) = true := by decide +kernel
set_option maxRecDepth 100000 in
theorem lkF_ok_6 : (lkF 6).all (lkFc 6) = true := by decide +kernel
set_option maxRecDepth 100000 in
theorem lkF_ok_7 : (lkF 7).all (lkFc 7) = true := by decide +kernel
set_option maxRecDepth 100000 in
theorem lkF_ok_8 : (lkF 8).all (lkFc 8) = true := by decide +kernel
set_option maxRecDepth 100000 in
theorem lkF_ok_9 : (lkF 9).all (lkFc 9) = true := by decide +kernel
set_option maxRecDepth 100000 in
theorem lkF_ok_10 : (lkF 10).all (lkFc 10) = true := by decide +kernel
set_option maxRecDepth 100000 in
theorem lkF_ok_11 : (lkF 11).all (lkFc 11) = true := by decide +kernel
set_option maxRecDepth 100000 in
theorem lkF_ok_12 : (lkF 12).all (lkFc 12) = true := by decide +kernel
set_option maxRecDepth 100000 in
theorem lkF_ok_13 : (lkF 13).all (lkFc 13) = true := by decide +kernel
set_option maxRecDepth 100000 in
theorem lkF_ok_14 : (lkF 14).all (lkFc 14) = true := by decide +kernel
set_option maxRecDepth 100000 in
theorem lkF_ok_15 : (lkF 15).all (lkFc 15) = true := by decide +kernel
set_option maxRecDepth 100000 in
theorem lkF_ok_16 : (lkF 16).all (lkFc 16) = true := by decide +kernel
set_option maxRecDepth 100000 in
theorem lkF_ok_17 : (lkF 17).all (lkFc 17) = true := by decide +kernel
set_option maxRecDepth 100000 in
theorem lkF_ok_18 : (lkF 18).all (lkFc 18) = true := by decide +kernel
set_option maxRecDepth 100000 in
theorem lkF_ok_19 : (lkF 19).all (lkFc 19) = true := by decide +kernel
set_option maxRecDepth 100000 in
theorem lkF_ok_20 : (lkF 20).all (lkFc 20) = true := by decide +kernel
theorem lkF_ok (w : Nat) : (lkF w).all (lkFc w) = true := by
  match w with
  | 0 => exact lkF_ok_0
  | 1 => exact lkF_ok_1
  | 2 => exact lkF_ok_2
  | 3 => exact lkF_ok_3
  | 4 => exact lkF_ok_4
  | 5 => exact lkF_ok_5
  | 6 => exact lkF_ok_6
  | 7 => exact lkF_ok_7
  | 8 => exact lkF_ok_8
  | 9 => exact lkF_ok_9
  | 10 => exact lkF_ok_10
  | 11 => exact lkF_ok_11
  | 12 => exact lkF_ok_12
  | 13 => exact lkF_ok_13
  | 14 => exact lkF_ok_14
  | 15 => exact lkF_ok_15
  | 16 => exact lkF_ok_16
  | 17 => exact lkF_ok_17
  | 18 => exact lkF_ok_18
  | 19 => exact lkF_ok_19
  | 20 => exact lkF_ok_20
  | n + 21 => rfl
/-- what is wanted of a method that is called -/
def mok1 (m : Nat) : Bool := decide (plainName (mtbs m).2.1.cls = true ∧ (mtbs m).2.1.cls = rnm (mtbs m).2.2.2.2 ∧ (mtbs m).2.1.cls ≠ "java/lang/invoke/MethodHandle" ∧ (mtbs m).2.1.cls ≠ "java/lang/invoke/VarHandle" ∧ (parseMethodDescriptor (mtbs m).2.1.desc).map (fun d => d.parameters.length) = some (mtbs m).2.2.2.1 ∧ (inf m).1 ≤ 60 ∧ 1 ≤ (inf m).2.1.1 ∧ m < 356)
/-- the words of one call -/
def lmw (w : Nat) (q : Nat × Nat × Nat × Nat × Nat × Nat × Nat) : List (Nat × Cond) := match q with
  | (idx, a, f, p1, p2, p3, p4) => (p4, Cond.initialized (mtbs f).2.1.cls) :: (match a % 10 with
    | 0 => [(p1, Cond.methodLink (rnm w) idx (mtbs f).2.1), (p2, Cond.static (mtbs f).2.1)]
    | 1 => [(p1, Cond.methodLinkNest (rnm w) idx (mtbs f).2.1 RX11), (p2, Cond.static (mtbs f).2.1)]
    | 2 => [(p1, Cond.methodLink (rnm w) idx (mtbs f).2.1), (p2, Cond.instanceMethod (mtbs f).2.1), (p3, Cond.selects (mtbs f).2.1.cls (mtbs f).2.1 (mtbs f).2.1)]
    | 3 => [(p1, Cond.methodLinkNest (rnm w) idx (mtbs f).2.1 RX11), (p2, Cond.instanceMethod (mtbs f).2.1), (p3, Cond.selects (mtbs f).2.1.cls (mtbs f).2.1 (mtbs f).2.1)]
    | 4 => [(p1, Cond.methodLink (rnm w) idx (mtbs f).2.1), (p2, Cond.instanceMethod (mtbs f).2.1)]
    | 5 => [(p1, Cond.methodLinkNest (rnm w) idx (mtbs f).2.1 RX11), (p2, Cond.instanceMethod (mtbs f).2.1)]
    | _ => [(p1, Cond.methodLink (rnm w) idx (mtbs f).2.1), (p2, Cond.instanceMethod (mtbs f).2.1), (p3, Cond.selects (mtbs f).2.1.cls (mtbs f).2.1 (mtbs f).2.1)])
/-- .. and receivers' kinds, constructors' names -/
def lkMc (w : Nat) (q : Nat × Nat × Nat × Nat × Nat × Nat × Nat) : Bool := (mok1 q.2.2.1 && (lmw w q).all (fun z => decide (tbw z.1 = some z.2))) && (match q.2.1 % 10 with
    | 2 => Nat.beq (q.2.1 / 1000) (10 + (mtbs q.2.2.1).2.2.2.2) && Nat.ble (mtbs q.2.2.1).2.2.2.2 12
    | 3 => Nat.beq (q.2.1 / 1000) (10 + (mtbs q.2.2.1).2.2.2.2) && Nat.ble (mtbs q.2.2.1).2.2.2.2 12
    | 4 => decide ((mtbs q.2.2.1).2.1.name = "<init>" ∧ (mtbs q.2.2.1).2.2.1 = none)
    | 5 => decide ((mtbs q.2.2.1).2.1.name = "<init>" ∧ (mtbs q.2.2.1).2.2.1 = none)
    | 6 => decide ((mtbs q.2.2.1).2.1.cls = "java/lang/String")
    | _ => true)
set_option maxRecDepth 100000 in
theorem lkM_ok_0 : (lkM 0).all (lkMc 0) = true := by decide +kernel
set_option maxRecDepth 100000 in
theorem lkM_ok_1 : (lkM 1).all (lkMc 1) = true := by decide +kernel
set_option maxRecDepth 100000 in
theorem lkM_ok_2 : (lkM 2).all (lkMc 2) = true := by decide +kernel
set_option maxRecDepth 100000 in
theorem lkM_ok_3 : (lkM 3).all (lkMc 3) = true := by decide +kernel
set_option maxRecDepth 100000 in
theorem lkM_ok_4 : (lkM 4).all (lkMc 4) = true := by decide +kernel
set_option maxRecDepth 100000 in
theorem lkM_ok_5 : (lkM 5).all (lkMc 5) = true := by decide +kernel
set_option maxRecDepth 100000 in
theorem lkM_ok_6 : (lkM 6).all (lkMc 6) = true := by decide +kernel
set_option maxRecDepth 100000 in
theorem lkM_ok_7 : (lkM 7).all (lkMc 7) = true := by decide +kernel
set_option maxRecDepth 100000 in
theorem lkM_ok_8 : (lkM 8).all (lkMc 8) = true := by decide +kernel
set_option maxRecDepth 100000 in
theorem lkM_ok_9 : (lkM 9).all (lkMc 9) = true := by decide +kernel
set_option maxRecDepth 100000 in
theorem lkM_ok_10 : (lkM 10).all (lkMc 10) = true := by decide +kernel
set_option maxRecDepth 100000 in
theorem lkM_ok_11 : (lkM 11).all (lkMc 11) = true := by decide +kernel
set_option maxRecDepth 100000 in
theorem lkM_ok_12 : (lkM 12).all (lkMc 12) = true := by decide +kernel
set_option maxRecDepth 100000 in
theorem lkM_ok_13 : (lkM 13).all (lkMc 13) = true := by decide +kernel
set_option maxRecDepth 100000 in
theorem lkM_ok_14 : (lkM 14).all (lkMc 14) = true := by decide +kernel
set_option maxRecDepth 100000 in
theorem lkM_ok_15 : (lkM 15).all (lkMc 15) = true := by decide +kernel
set_option maxRecDepth 100000 in
theorem lkM_ok_16 : (lkM 16).all (lkMc 16) = true := by decide +kernel
set_option maxRecDepth 100000 in
theorem lkM_ok_17 : (lkM 17).all (lkMc 17) = true := by decide +kernel
set_option maxRecDepth 100000 in
theorem lkM_ok_18 : (lkM 18).all (lkMc 18) = true := by decide +kernel
set_option maxRecDepth 100000 in
theorem lkM_ok_19 : (lkM 19).all (lkMc 19) = true := by decide +kernel
set_option maxRecDepth 100000 in
theorem lkM_ok_20 : (lkM 20).all (lkMc 20) = true := by decide +kernel
theorem lkM_ok (w : Nat) : (lkM w).all (lkMc w) = true := by
  match w with
  | 0 => exact lkM_ok_0
  | 1 => exact lkM_ok_1
  | 2 => exact lkM_ok_2
  | 3 => exact lkM_ok_3
  | 4 => exact lkM_ok_4
  | 5 => exact lkM_ok_5
  | 6 => exact lkM_ok_6
  | 7 => exact lkM_ok_7
  | 8 => exact lkM_ok_8
  | 9 => exact lkM_ok_9
  | 10 => exact lkM_ok_10
  | 11 => exact lkM_ok_11
  | 12 => exact lkM_ok_12
  | 13 => exact lkM_ok_13
  | 14 => exact lkM_ok_14
  | 15 => exact lkM_ok_15
  | 16 => exact lkM_ok_16
  | 17 => exact lkM_ok_17
  | 18 => exact lkM_ok_18
  | 19 => exact lkM_ok_19
  | 20 => exact lkM_ok_20
  | n + 21 => rfl
set_option maxRecDepth 100000 in
theorem lkC_ok : lkC.all (fun q => decide (tbw q.2.2.2 = some (Cond.classLink (rnm q.1) q.2.1 (bif Nat.beq q.2.2.1 103 then RX7 else bif Nat.beq q.2.2.1 104 then RX10 else rnm q.2.2.1)))) = true := by decide +kernel
set_option maxRecDepth 100000 in
theorem lkI_ok : lkI.all (fun q => decide (tbw q.2.2.2 = some (Cond.constant (rnm q.1) q.2.1 (Int32.ofInt q.2.2.1)))) = true := by decide +kernel
set_option maxRecDepth 100000 in
theorem lkJ_ok : lkJ.all (fun q => decide (tbw q.2.2.2 = some (Cond.constantLong (rnm q.1) q.2.1 (Int64.ofInt q.2.2.1)))) = true := by decide +kernel
set_option maxRecDepth 100000 in
theorem lkO_ok : lkO.all (fun q => decide (tbw q.2.2 = some (Cond.methodLink (rnm q.1) q.2.1 objectInit))) = true := by decide +kernel
set_option maxRecDepth 100000 in
theorem lkA_ok : lkA.all (fun q => decide (tbw q.2.2 = some (Cond.methodLink (rnm q.1) q.2.1 arraycopyName))) = true := by decide +kernel
set_option maxRecDepth 100000 in
theorem lkV_ok : lkV.all (fun q => decide (tbw q.2.2.2 = some (Cond.fieldLink (rnm q.1) q.2.1 "java/lang/String" (bif Nat.beq q.2.2.1 31 then "value" else "coder") (bif Nat.beq q.2.2.1 31 then "[B" else "B")))) = true := by decide +kernel
set_option maxRecDepth 100000 in
theorem lkX_ok : lkX.all (fun q => decide (tbw q.2.2.2 = some (Cond.methodLink (rnm q.1) q.2.1 (mnm q.2.2.1)))) = true := by decide +kernel
set_option maxRecDepth 100000 in
theorem lkG_ok : lkG.all (fun q => decide (tbw q.2.2.2 = some (bif Nat.beq q.2.2.1 35 then Cond.fieldLink (rnm q.1) q.2.1 "java/lang/String" "COMPACT_STRINGS" "Z" else Cond.fieldLink (rnm q.1) q.2.1 "jdk/internal/util/Preconditions" "SIOOBE_FORMATTER" "Ljava/util/function/BiFunction;"))) = true := by decide +kernel

