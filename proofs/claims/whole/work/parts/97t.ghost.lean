/-! CONSTRUCTORS are worked out on the shapes alone; what is written comes out as a list (own work) -/
abbrev Lgs : Type := List (Nat × Option (Int × Int))
def ap1 (c : Cm) (e : Nat × Option (Int × Int)) : Cm := match e.2 with
  | none => uz c e.1
  | some p => up c e.1 p.1 p.2
def apg (g : Lgs) (c : Cm) : Cm := g.foldl ap1 c
theorem apg_app {g h : Lgs} {c : Cm} : apg (g ++ h) c = apg h (apg g c) := List.foldl_append
def gst {α : Type} (Z : α) (k : List V → List V → List Shp → Lgs → α) (i : Ins) (ls st : List V) (L : List Shp) : α :=
  match i.1 with
  | 0 => k ls (vI i.2.2.2 :: st) L []
  | 1 => k ls (vL i.2.2.2 :: st) L []
  | 3 => (ls[i.2.1]?).elim Z (fun v => bif Nat.beq (tyV v) i.2.2.1 then k ls (v :: st) L [] else Z)
  | 4 => pV Z st (fun v st => bif Nat.beq (tyV v) i.2.2.1 then k (sto ls i.2.1 i.2.2.1 v) st L [] else Z)
  | 6 => pI Z st (fun y st => pI Z st (fun x st => cib Z i.2.1 x y (fun v => k ls (vI v :: st) L [])))
  | 11 => pV Z st (fun v st => bif one1 v then k ls (v :: v :: st) L [] else Z)
  | 21 => pR Z st (fun r st => pD Z L r (fun _ s => bif Nat.beq s.1 (10 + i.2.1) then k ls (vR (s.2.2.getD i.2.2.1 0) :: st) L [] else Z))
  | 22 => pI Z st (fun x st => pR Z st (fun r st => pD Z L r (fun p s => bif Nat.beq s.1 (10 + i.2.1) then k ls st L [(p, some (Int.ofNat i.2.2.1, x))] else Z)))
  | 25 => pR Z st (fun x st => pR Z st (fun r st => pD Z L r (fun p s => bif Nat.beq s.1 (10 + i.2.1) then pD Z L x (fun _ _ => k ls st (L.set p (s.1, s.2.1, s.2.2.set i.2.2.1 x)) []) else Z)))
  | 27 => pI Z st (fun x st => pI Z st (fun j st => pR Z st (fun r st => pD Z L r (fun p s => bif Nat.beq s.1 0 then (if 0 ≤ j ∧ j < s.2.1 then k ls st L [(p, some (j, x))] else Z) else Z))))
  | 36 => k ls (vR ((L.length : Int) + 1) :: st) (L ++ [(10 + i.2.1, (i.2.2.1 : Int), List.replicate i.2.2.1 0)]) [(L.length, none)]
  | 37 => pI Z st (fun n st => if 0 ≤ n ∧ n ≤ 60000000 then k ls (vR ((L.length : Int) + 1) :: st) (L ++ [(i.2.1, n, [])]) [(L.length, none)] else Z)
  | 38 => pI Z st (fun n st => if 0 ≤ n ∧ n ≤ 60000000 then k ls (vR ((L.length : Int) + 1) :: st) (L ++ [(i.2.1, n, [])]) [(L.length, none)] else Z)
  | 40 => pR Z st (fun r st => pD Z L r (fun _ _ => bif Nat.ble (catS st) 8 then k ls st L [] else Z))
  | 52 => pL Z st (fun x st => pI Z st (fun j st => pR Z st (fun r st => pD Z L r (fun p s => bif Nat.beq s.1 1 then (if 0 ≤ j ∧ j < s.2.1 then k ls st L [(p, some (j, x))] else Z) else Z))))
  | 54 => pR Z st (fun x st => pI Z st (fun j st => pR Z st (fun r st => pD Z L r (fun p s => bif Nat.beq s.1 i.2.1 then (if 0 ≤ j ∧ j < s.2.1 then bif trf L x i.2.2.1 then k ls st L [(p, some (j, x))] else Z else Z) else Z))))
  | _ => Z
section GH
variable {α β : Type} {Rl : α → β → Prop} {Z : α} {Z' : β}
theorem gst_rel (hA : ∀ y, Rl Z y) {J : Nat → List V → List V → Mem → β} {C : Nat → List V → List V → List V → Mem → β} {R : Option V → Mem → β} {k : List V → List V → List Shp → Lgs → α} {k' : List V → List V → Mem → β} (c : Cm) (hk : ∀ a b L g, Rl (k a b L g) (k' a b (L, apg g c))) (i : Ins) (ls st : List V) (L : List Shp) : Rl (gst Z k i ls st L) (cstp Z' J C R k' i ls st (L, c)) := by
  have hZ : Rl Z Z' := hA Z'
  obtain ⟨op, a, b, x⟩ := i
  unfold gst
  dsimp only
  split
  · exact hk _ _ _ []
  · exact hk _ _ _ []
  · exact rl_el hZ fun _ => rl_bif hZ (hk _ _ _ [])
  · exact rl_pV hZ fun _ _ => rl_bif hZ (hk _ _ _ [])
  · exact rl_pI hZ fun _ _ => rl_pI hZ fun _ _ => rl_cib hZ fun _ => hk _ _ _ []
  · exact rl_pV hZ fun _ _ => rl_bif hZ (hk _ _ _ [])
  · exact rl_pR hZ fun _ _ => rl_pD hZ fun _ _ => rl_bif hZ (hk _ _ _ [])
  · exact rl_pI hZ fun x _ => rl_pR hZ fun _ _ => rl_pD hZ fun p _ => rl_bif hZ (hk _ _ _ [(p, some (Int.ofNat b, x))])
  · exact rl_pR hZ fun _ _ => rl_pR hZ fun _ _ => rl_pD hZ fun _ _ => rl_bif hZ (rl_pD hZ fun _ _ => hk _ _ _ [])
  · exact rl_pI hZ fun x _ => rl_pI hZ fun j _ => rl_pR hZ fun _ _ => rl_pD hZ fun p _ => rl_bif hZ (rl_if _ hZ (hk _ _ _ [(p, some (j, x))]))
  · exact hk _ _ _ [(L.length, none)]
  · exact rl_pI hZ fun _ _ => rl_if _ hZ (hk _ _ _ [(L.length, none)])
  · exact rl_pI hZ fun _ _ => rl_if _ hZ (hk _ _ _ [(L.length, none)])
  · exact rl_pR hZ fun _ _ => rl_pD hZ fun _ _ => rl_bif hZ (hk _ _ _ [])
  · exact rl_pL hZ fun x _ => rl_pI hZ fun j _ => rl_pR hZ fun _ _ => rl_pD hZ fun p _ => rl_bif hZ (rl_if _ hZ (hk _ _ _ [(p, some (j, x))]))
  · exact rl_pR hZ fun x _ => rl_pI hZ fun j _ => rl_pR hZ fun _ _ => rl_pD hZ fun p _ => rl_bif hZ (rl_if _ hZ (rl_bif hZ (hk _ _ _ [(p, some (j, x))])))
  · exact hA _
end GH
abbrev GRes : Type := Option (List Shp × Lgs)
def gth (g : Lgs) (r : GRes) : GRes := r.elim none (fun q => some (q.1, g ++ q.2))
def gL (C : Nat → List V → List Shp → GRes) : List Ins → List V → List V → List Shp → GRes
  | [], _, _, _ => none
  | i :: l, ls, st, L => bif Nat.beq i.1 42 then pE none st (some (L, [])) else bif Nat.beq i.1 39 then (bif Nat.ble (i.2.1 / 10 % 100) st.length && Nat.ble (catS (st.drop (i.2.1 / 10 % 100))) 8 then rcv none (i.2.1 % 10) (i.2.1 / 1000) L (st.take (i.2.1 / 10 % 100)).reverse ((C i.2.2.1 (st.take (i.2.1 / 10 % 100)).reverse L).elim none (fun q => gth q.2 (gL C l ls (st.drop (i.2.1 / 10 % 100)) q.1))) else none) else gst none (fun ls st L g => gth g (gL C l ls st L)) i ls st L
def GOK (c : Cm) (a : GRes) (b : Res) : Prop := ∀ R, a = some R → b = some (none, (R.1, apg R.2 c))
theorem gok_none {c : Cm} {b : Res} : GOK c none b := fun R h => by cases h
theorem gok_gth {c : Cm} {g : Lgs} {r : GRes} {b : Res} (h : GOK (apg g c) r b) : GOK c (gth g r) b := by
  intro R e
  cases hr : r with
  | none => rw [hr] at e; cases e
  | some q =>
    rw [hr] at e
    have e : some (q.1, g ++ q.2) = some R := e
    cases e
    rw [h q hr, apg_app]
theorem gL_ok {Cg : Nat → List V → List Shp → GRes} {Cr : Nat → List V → Mem → Res} {J : Nat → List V → List V → Mem → Res} (hC : ∀ f a L c, GOK c (Cg f a L) (Cr f a (L, c))) : ∀ (l : List Ins) (ls st : List V) (L : List Shp) (c : Cm), GOK c (gL Cg l ls st L) (crunL J Cr l ls st (L, c)) := by
  intro l
  induction l with
  | nil => intro ls st L c; exact gok_none
  | cons i l ih =>
    intro ls st L c
    obtain ⟨op, a, b, x⟩ := i
    show GOK c (bif Nat.beq op 42 then _ else _) _
    cases h42 : Nat.beq op 42 with
    | true =>
      have e := Nat.eq_of_beq_eq_true h42
      subst e
      show GOK c (pE none st (some (L, []))) (pE none st (some (none, (L, c))))
      cases st with
      | nil =>
        intro R e
        have e : some (L, []) = some R := e
        cases e
        rfl
      | cons v st => exact gok_none
    | false =>
      show GOK c (bif Nat.beq op 39 then _ else _) _
      cases h39 : Nat.beq op 39 with
      | true =>
        have e := Nat.eq_of_beq_eq_true h39
        subst e
        show GOK c (bif (Nat.ble (a / 10 % 100) st.length && Nat.ble (catS (st.drop (a / 10 % 100))) 8) then rcv none (a % 10) (a / 1000) L (st.take (a / 10 % 100)).reverse ((Cg b (st.take (a / 10 % 100)).reverse L).elim none (fun q => gth q.2 (gL Cg l ls (st.drop (a / 10 % 100)) q.1))) else none) (bif (Nat.ble (a / 10 % 100) st.length && Nat.ble (catS (st.drop (a / 10 % 100))) 8) then rcv none (a % 10) (a / 1000) L (st.take (a / 10 % 100)).reverse ((Cr b (st.take (a / 10 % 100)).reverse (L, c)).elim none (fun q => crunL J Cr l ls (pu q.1 (st.drop (a / 10 % 100))) q.2)) else none)
        refine rl_bif (Rl := GOK c) gok_none (rl_rcv (Rl := GOK c) gok_none ?_)
        have k := hC b (st.take (a / 10 % 100)).reverse L c
        cases hg : Cg b (st.take (a / 10 % 100)).reverse L with
        | none => exact gok_none
        | some q =>
          have k2 := k q hg
          show GOK c (gth q.2 (gL Cg l ls (st.drop (a / 10 % 100)) q.1)) ((Cr b (st.take (a / 10 % 100)).reverse (L, c)).elim none _)
          rw [k2]
          exact gok_gth (ih _ _ _ _)
      | false =>
        show GOK c (gst none (fun ls st L g => gth g (gL Cg l ls st L)) (op, a, b, x) ls st L) (cstp (α := Res) none J (fun f args ls st M => (Cr f args M).elim none (fun q => crunL J Cr l ls (pu q.1 st) q.2)) (fun v M => some (v, M)) (fun ls st M => crunL J Cr l ls st M) (op, a, b, x) ls st (L, c))
        exact gst_rel (Rl := GOK c) (k := fun ls st L g => gth g (gL Cg l ls st L)) (k' := fun ls st M => crunL J Cr l ls st M) (fun y => gok_none) c (fun a b L g => gok_gth (ih _ _ _ _)) _ _ _ _
def gcal : Nat → Nat → List V → List Shp → GRes
  | 0, _, _, _ => none
  | n + 1, f, args, L => gL (fun f' a' L' => bif Nat.ble (need f' a' + 1) (need f args) then gcal n f' a' L' else none) (blk f 0).2 (mkl (inf f).1 args) [] L
theorem gcal_ok : ∀ (n f : Nat) (args : List V) (L : List Shp) (c : Cm), GOK c (gcal n f args L) (ccal f args (L, c)) := by
  intro n
  induction n with
  | zero => intro f args L c; exact gok_none
  | succ n ih =>
    intro f args L c
    show GOK c _ (cev f (need f args) 0 (mkl (inf f).1 args) [] (L, c))
    rw [cev_eq]
    refine gL_ok (fun f' a' L' c' => ?_) _ _ _ _ _
    exact rl_bif (Rl := GOK c') gok_none (ih f' a' L' c')
