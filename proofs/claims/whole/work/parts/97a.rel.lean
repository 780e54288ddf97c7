/-! THE JOINT WORLD: what the class's cells and the reference's have in common -/
/-- the laws: each text of the class beside each of the reference's -/
def LWS (T : List Shp) (t : Int → Int) (c : Cm) (R : Int → Int) : Prop := ∀ i, 0 ≤ i → i < R 1 → ∃ F, CTX T c (t i) F ∧ RTX R (380 + 900 * i) F
/-- a portrait of the class (cell o) beside a row of the reference -/
def PT (o : Nat) (T : List Shp) (c : Cm) (R : Int → Int) : Prop := CSo o c R ∧ RNG R ∧ LWS T (c (o + 4)) c R ∧ ∀ x, 0 ≤ x → x < 6 → trf (SH T) (c (o + 4) x) 20 = true
/-- the reference's image -/
def IR (c : Cm) (k : Int) : Int → Int := fun j => if j < 5780 then c 80 (5780 * k + j) else 0
def IMG (T : List Shp) (c : Cm) : Prop := (c 0 2 = c 82 0 + 2 * c 82 1 ∧ (c 82 0 = 0 ∨ c 82 0 = 1) ∧ (c 82 1 = 0 ∨ c 82 1 = 1)) ∧ (c 29 0 = 31 ∧ c 29 1 = 40) ∧ (c 82 0 = 1 → PT 30 T c (IR c 0)) ∧ (c 82 1 = 1 → PT 39 T c (IR c 1))
def TAP (c : Cm) : Prop := c 0 4 = c 77 9 ∧ BLt (c 10) (c 77 9) ∧ ∀ j, 0 ≤ j → j < 400 → c 83 j = c 10 j
def MSC (c : Cm) : Prop := (c 0 14 = c 77 14 ∧ c 0 15 = c 77 7 ∧ c 0 16 = c 77 56) ∧ AX c ∧ KW c ∧ B9 c ∧ ∀ j, 5780 ≤ j → c 79 j = 0
/-- status and refusals -/
def RFS (n : Nat) (c : Cm) : Prop := c 0 17 = c 77 1 ∧ (c 78 1 = c 76 0 ∧ c 78 2 = c 76 1 ∧ c 78 3 = c 76 2 ∧ c 78 5 = c 76 3 ∧ c 78 6 = c 76 4) ∧ (0 ≤ c 76 0 ∧ c 76 0 ≤ (n : Int)) ∧ (0 ≤ c 76 1 ∧ c 76 1 ≤ (n : Int)) ∧ (0 ≤ c 76 2 ∧ c 76 2 ≤ (n : Int)) ∧ (0 ≤ c 76 3 ∧ c 76 3 ≤ (n : Int)) ∧ (0 ≤ c 76 4 ∧ c 76 4 ≤ (n : Int))
def CNR (c : Cm) : Prop := c 73 7 = c 77 59 ∧ (c 77 59 = 0 ∨ c 77 59 = 1) ∧ (c 77 59 = 1 → c 73 3 = c 77 60 ∧ (0 ≤ c 77 60 ∧ c 77 60 ≤ 5) ∧ (∀ i, 0 ≤ i → i < 12 → c 75 i = c 108 i) ∧ ∀ p, 0 ≤ p → p < 5 → c 74 p = c 108 (12 + p))
def TSZ (T : List Shp) (n : Nat) : Prop := T.length ≤ 3 * n ∧ ∀ s ∈ T, 0 ≤ s.2.1 ∧ s.2.1 ≤ 450
def REL (T : List Shp) (c : Cm) (n : Nat) : Prop := PT 1 T c (c 79) ∧ IMG T c ∧ TAP c ∧ MSC c ∧ RFS n c ∧ CNR c ∧ TSZ T n
/-- cells that nobody looks at from call to call -/
def scq (q : Nat) : Bool := (Nat.ble 11 q && Nat.ble q 28) || (Nat.ble 48 q && Nat.ble q 70) || Nat.beq q 72 || Nat.beq q 81 || (Nat.ble 84 q && Nat.ble q 88) || (Nat.ble 92 q && Nat.ble q 107)
/-- fields of the reference that somebody looks at -/
def LKF : List Int := [1, 7, 9, 14, 16, 44, 45, 56, 59, 60]
def LK8 : List Int := [1, 7, 9, 14, 56, 59, 60]
theorem scq_big {q : Nat} (h : 108 ≤ q) : scq q = false := by
  cases e : scq q with
  | false => rfl
  | true =>
    unfold scq at e
    simp only [Bool.or_eq_true, Bool.and_eq_true, Nat.ble_eq, Nat.beq_eq] at e
    omega
theorem CSo.cells {o : Nat} {c c' : Cm} {R : Int → Int} (h : CSo o c R) (e0 : c' o = c o) (e1 : c' (o + 1) = c (o + 1)) (e2 : c' (o + 2) = c (o + 2)) (e3 : c' (o + 3) = c (o + 3)) (e5 : c' (o + 5) = c (o + 5)) (e6 : c' (o + 6) = c (o + 6)) (e7 : c' (o + 7) = c (o + 7)) (e8 : c' (o + 8) = c (o + 8)) : CSo o c' R := by
  unfold CSo
  rw [e0, e1, e2, e3, e5, e6, e7, e8]
  exact h
theorem LWS.cg {T : List Shp} {t : Int → Int} {c c' : Cm} {R : Int → Int} (h : LWS T t c R) (hc : ∀ q, 109 ≤ q → c' q = c q) : LWS T t c' R := fun i a b => by
  obtain ⟨F, h1, h2⟩ := h i a b
  exact ⟨F, h1.cg hc, h2⟩
theorem LWS.row {T : List Shp} {t : Int → Int} {c : Cm} {R R' : Int → Int} (h : LWS T t c R) (e1 : R' 1 = R 1) (e : ∀ j, 380 ≤ j → R' j = R j) : LWS T t c R' := fun i a b => by
  rw [e1] at b
  obtain ⟨F, h1, h2⟩ := h i a b
  exact ⟨F, h1, h2.cg (by omega) e⟩
theorem PT.cells {o : Nat} {T : List Shp} {c c' : Cm} {R : Int → Int} (h : PT o T c R) (e : ∀ q, o ≤ q → q ≤ o + 8 → c' q = c q) (hc : ∀ q, 109 ≤ q → c' q = c q) : PT o T c' R := by
  obtain ⟨h1, h2, h3, h4⟩ := h
  refine ⟨h1.cells (e _ (by omega) (by omega)) (e _ (by omega) (by omega)) (e _ (by omega) (by omega)) (e _ (by omega) (by omega)) (e _ (by omega) (by omega)) (e _ (by omega) (by omega)) (e _ (by omega) (by omega)) (e _ (by omega) (by omega)), h2, ?_, ?_⟩
  · rw [e _ (by omega) (by omega)]; exact h3.cg hc
  · rw [e _ (by omega) (by omega)]; exact h4
theorem PT.nn {o : Nat} {T : List Shp} {c : Cm} {R R' : Int → Int} (h : PT o T c R) (e : ∀ j, 0 ≤ j → R' j = R j) : PT o T c R' := ⟨h.1.nn e, h.2.1.nn e, h.2.2.1.row (e 1 (by omega)) fun j a => e j (by omega), h.2.2.2⟩
theorem IMG.cells {T : List Shp} {c c' : Cm} (h : IMG T c) (e2 : c' 0 2 = c 0 2) (e : ∀ q, 29 ≤ q → q ≤ 47 → c' q = c q) (e80 : c' 80 = c 80) (e82 : c' 82 = c 82) (hc : ∀ q, 109 ≤ q → c' q = c q) : IMG T c' := by
  obtain ⟨h1, h2, h3, h4⟩ := h
  have er : ∀ k, IR c' k = IR c k := fun k => by unfold IR; rw [e80]
  unfold IMG
  rw [e2, e82, e 29 (by omega) (by omega), er, er]
  exact ⟨h1, h2, fun a => (h3 a).cells (fun q a b => e q (by omega) (by omega)) hc, fun a => (h4 a).cells (fun q a b => e q (by omega) (by omega)) hc⟩
theorem TAP.cells {c c' : Cm} (h : TAP c) (e0 : c' 0 4 = c 0 4) (e9 : c' 77 9 = c 77 9) (e10 : c' 10 = c 10) (e83 : c' 83 = c 83) : TAP c' := by
  unfold TAP
  rw [e0, e9, e10, e83]
  exact h
theorem MSC.cells {c c' : Cm} (h : MSC c) (e14 : c' 0 14 = c 0 14) (e15 : c' 0 15 = c 0 15) (e16 : c' 0 16 = c 0 16) (f14 : c' 77 14 = c 77 14) (f7 : c' 77 7 = c 77 7) (f56 : c' 77 56 = c 77 56) (ax : AX c') (e89 : c' 89 = c 89) (e90 : c' 90 = c 90) (e91 : c' 91 = c 91) (e71 : c' 71 = c 71) (e79 : ∀ j, 5780 ≤ j → c' 79 j = c 79 j) : MSC c' := by
  obtain ⟨h1, h2, h3, h4, h5⟩ := h
  refine ⟨?_, ax, h3.cong e89 e90 e91, ?_, fun j a => (e79 j a).trans (h5 j a)⟩
  · rw [e14, e15, e16, f14, f7, f56]; exact h1
  · unfold B9; rw [e71]; exact h4
theorem RFS.cells {n : Nat} {c c' : Cm} (h : RFS n c) (e17 : c' 0 17 = c 0 17) (e1 : c' 77 1 = c 77 1) (e76 : c' 76 = c 76) (e78 : c' 78 = c 78) : RFS n c' := by
  unfold RFS
  rw [e17, e1, e76, e78]
  exact h
theorem RFS.up1 {n : Nat} {c : Cm} (h : RFS n c) : RFS (n + 1) c := by
  obtain ⟨h1, h2, a, b, d, e, f⟩ := h
  exact ⟨h1, h2, by omega, by omega, by omega, by omega, by omega⟩
theorem TSZ.up1 {T : List Shp} {n : Nat} (h : TSZ T n) : TSZ T (n + 1) := ⟨by have := h.1; omega, h.2⟩
theorem CNR.cells {c c' : Cm} (h : CNR c) (e73 : c' 73 = c 73) (e74 : c' 74 = c 74) (e75 : c' 75 = c 75) (e108 : c' 108 = c 108) (f59 : c' 77 59 = c 77 59) (f60 : c' 77 60 = c 77 60) : CNR c' := by
  unfold CNR
  rw [e73, e74, e75, e108, f59, f60]
  exact h
theorem REL.up1 {T : List Shp} {c : Cm} {n : Nat} (h : REL T c n) : REL T c (n + 1) := by
  obtain ⟨h1, h2, h3, h4, h5, h6, h7⟩ := h
  exact ⟨h1, h2, h3, h4, h5.up1, h6, h7.up1⟩
/-- what nobody looks at may change -/
theorem REL.fr2 {T : List Shp} {c c' : Cm} {n : Nat} (h : REL T c n) (e : ∀ q, scq q = false → q ≠ 77 → c' q = c q) (f : ∀ j, LK8.contains j = true → c' 77 j = c 77 j) (ax : AX c') : REL T c' n := by
  obtain ⟨h1, h2, h3, h4, h5, h6, h7⟩ := h
  have big : ∀ q, 109 ≤ q → c' q = c q := fun q a => e q (scq_big (by omega)) (by omega)
  have e79 : c' 79 = c 79 := e 79 rfl (by decide)
  have e0 : c' 0 = c 0 := e 0 rfl (by decide)
  refine ⟨?_, h2.cells (by rw [e0]) (fun q a b => e q ?_ (by omega)) (e 80 rfl (by decide)) (e 82 rfl (by decide)) big, h3.cells (by rw [e0]) (f 9 rfl) (e 10 rfl (by decide)) (e 83 rfl (by decide)), h4.cells (by rw [e0]) (by rw [e0]) (by rw [e0]) (f 14 rfl) (f 7 rfl) (f 56 rfl) ax (e 89 rfl (by decide)) (e 90 rfl (by decide)) (e 91 rfl (by decide)) (e 71 rfl (by decide)) (fun j _ => by rw [e79]), h5.cells (by rw [e0]) (f 1 rfl) (e 76 rfl (by decide)) (e 78 rfl (by decide)), h6.cells (e 73 rfl (by decide)) (e 74 rfl (by decide)) (e 75 rfl (by decide)) (e 108 rfl (by decide)) (f 59 rfl) (f 60 rfl), h7⟩
  · rw [e79]
    refine h1.cells (fun q a b => e q ?_ (by omega)) big
    cases e : scq q with
    | false => rfl
    | true =>
      unfold scq at e
      simp only [Bool.or_eq_true, Bool.and_eq_true, Nat.ble_eq, Nat.beq_eq] at e
      omega
  · cases e : scq q with
    | false => rfl
    | true =>
      unfold scq at e
      simp only [Bool.or_eq_true, Bool.and_eq_true, Nat.ble_eq, Nat.beq_eq] at e
      omega
theorem REL.fr {T : List Shp} {c c' : Cm} {n : Nat} (h : REL T c n) (e : ∀ q, scq q = false → q ≠ 77 → c' q = c q) (f : ∀ j, LKF.contains j = true → c' 77 j = c 77 j) : REL T c' n := by
  refine h.fr2 e (fun j hj => f j ?_) ?_
  · refine List.contains_iff_mem.mpr ?_
    have := List.contains_iff_mem.mp hj
    unfold LK8 at this
    unfold LKF
    simp at this ⊢
    omega
  · have := h.2.2.2.1.2.1
    unfold AX at this ⊢
    rw [f 16 rfl, f 44 rfl, f 45 rfl]
    exact this
theorem REL.off {T : List Shp} {c c' : Cm} {n : Nat} {L : List Nat} {G : List Int} (h : REL T c n) (o : Off L G c c') (hl : (L.all fun q => scq q) = true) (hg : (G.all fun j => !LKF.contains j) = true) : REL T c' n := by
  have nl : ∀ q, scq q = false → L.contains q = false := fun q hq => by
    cases e : L.contains q with
    | false => rfl
    | true =>
      have := (List.all_eq_true.mp hl) q (List.contains_iff_mem.mp e)
      rw [hq] at this
      exact absurd this (by decide)
  have ng : ∀ j, LKF.contains j = true → G.contains j = false := fun j hj => by
    cases e : G.contains j with
    | false => rfl
    | true =>
      have := (List.all_eq_true.mp hg) j (List.contains_iff_mem.mp e)
      rw [hj] at this
      exact absurd this (by decide)
  refine h.fr (fun q hq h77 => funext fun j => o q j (nl q hq) fun e => absurd e h77) fun j hj => o 77 j (nl 77 rfl) fun _ => ng j hj
theorem REL.off2 {T : List Shp} {c c' : Cm} {n : Nat} {L : List Nat} {G : List Int} (h : REL T c n) (o : Off L G c c') (hl : (L.all fun q => scq q) = true) (hg : (G.all fun j => !LK8.contains j) = true) (ax : AX c') : REL T c' n := by
  have nl : ∀ q, scq q = false → L.contains q = false := fun q hq => by
    cases e : L.contains q with
    | false => rfl
    | true =>
      have := (List.all_eq_true.mp hl) q (List.contains_iff_mem.mp e)
      rw [hq] at this
      exact absurd this (by decide)
  have ng : ∀ j, LK8.contains j = true → G.contains j = false := fun j hj => by
    cases e : G.contains j with
    | false => rfl
    | true =>
      have := (List.all_eq_true.mp hg) j (List.contains_iff_mem.mp e)
      rw [hj] at this
      exact absurd this (by decide)
  refine h.fr2 (fun q hq h77 => funext fun j => o q j (nl q hq) fun e => absurd e h77) (fun j hj => o 77 j (nl 77 rfl) fun _ => ng j hj) ax
/-- the worlds of both sides -/
theorem REL.worlds {T : List Shp} {c : Cm} {n : Nat} (h : REL T c n) : ∃ F, CWd T c (c 79) F ∧ RWd c F := by
  obtain ⟨⟨h1, h2, h3, h4⟩, -, -, ⟨-, h5, -⟩, -⟩ := h
  have r := h2.1
  have e7 : c 1 7 = c 79 2 := h1.1.2.2.2.1
  have e5 : c 1 5 = c 79 1 := h1.1.2.2.1
  by_cases z : c 79 2 = -1
  · exact ⟨[], ⟨h1, h2, .inl ⟨e7.trans z, rfl⟩⟩, h2, .inl ⟨z, rfl⟩, h5.1⟩
  · obtain ⟨F, a, b⟩ := h3 (c 79 2) (by omega) (by omega)
    exact ⟨F, ⟨h1, h2, .inr ⟨by omega, by omega, by rw [e7]; exact a⟩⟩, h2, .inr ⟨by omega, by omega, b⟩, h5.1⟩
/-- the script -/
def SC (c c' : Cm) : Prop := c' 1000000 = c 1000000 ∧ c' 1000001 = c 1000001
theorem SC.rfl {c : Cm} : SC c c := ⟨Eq.refl _, Eq.refl _⟩
theorem SC.trans {a b c : Cm} (h : SC a b) (k : SC b c) : SC a c := ⟨k.1.trans h.1, k.2.trans h.2⟩
theorem SC.wr {a b : Cm} {q : Nat} {i v : Int} (h : SC a b) (hq : q < 1000000) : SC a (up b q i v) := ⟨(up_cell (by omega)).trans h.1, (up_cell (by omega)).trans h.2⟩
theorem Off.sc {L : List Nat} {G : List Int} {c c' : Cm} (o : Off L G c c') (hl : (L.all fun q => Nat.ble q 999999) = true) : SC c c' := by
  have nl : ∀ q, 1000000 ≤ q → L.contains q = false := fun q hq => by
    cases e : L.contains q with
    | false => exact Eq.refl _
    | true =>
      have := (List.all_eq_true.mp hl) q (List.contains_iff_mem.mp e)
      have := Nat.le_of_ble_eq_true this
      omega
  exact ⟨funext fun j => o _ j (nl _ (by omega)) fun e => absurd e (by omega), funext fun j => o _ j (nl _ (by omega)) fun e => absurd e (by omega)⟩
/-- both answer alike, and the joint world stands -/
def JP (T : List Shp) (c : Cm) (n Y : Nat) (a : List V) (r : Int) (c1 : Cm) : Prop := SC c c1 ∧ QI T (fun r' c2 => r' = r ∧ SC c c2 ∧ REL T c2 (n + 1)) (ccal Y (vR 78 :: a) (SH T, c1))
def JN (T : List Shp) (c : Cm) (n : Nat) (X Y : Nat) (a : List V) : Prop := QI T (JP T c n Y a) (ccal X (vR 1 :: a) (SH T, c))
def JL (T : List Shp) (c : Cm) (n : Nat) (X Y : Nat) (a : List V) : Prop := QL T (fun r c1 => SC c c1 ∧ QL T (fun r' c2 => r' = r ∧ SC c c2 ∧ REL T c2 (n + 1)) (ccal Y (vR 78 :: a) (SH T, c1))) (ccal X (vR 1 :: a) (SH T, c))
/-- a plain question -/
theorem jq {T : List Shp} {c : Cm} {n X Y : Nat} {a : List V} {v : Int} {L1 L2 : List Nat} {G : List Int} (h : REL T c n) (hc : QI T (fun r c' => r = v ∧ Off L1 [] c c') (ccal X (vR 1 :: a) (SH T, c))) (hr : ∀ c1, c1 79 = c 79 → Off L1 [] c c1 → QI T (fun r c' => r = v ∧ Off L2 G c1 c') (ccal Y (vR 78 :: a) (SH T, c1))) (l1 : (L1.all fun q => scq q) = true) (l2 : (L2.all fun q => scq q) = true) (g : (G.all fun j => !LKF.contains j) = true) (s1 : (L1.all fun q => Nat.ble q 999999) = true) (s2 : (L2.all fun q => Nat.ble q 999999) = true) : JN T c n X Y a := by
  refine hc.mono fun r c1 k => ?_
  have w1 := h.off k.2 l1 rfl
  have e79 : c1 79 = c 79 := by
    funext j
    refine k.2 79 j ?_ fun e => absurd e (by decide)
    cases e : L1.contains 79 with
    | false => rfl
    | true =>
      have := (List.all_eq_true.mp l1) 79 (List.contains_iff_mem.mp e)
      exact absurd this (by decide)
  refine ⟨k.2.sc s1, (hr c1 e79 k.2).mono fun r' c2 k2 => ?_⟩
  exact ⟨k2.1.trans k.1.symm, (k.2.sc s1).trans (k2.2.sc s2), (w1.off k2.2 l2 g).up1⟩
theorem jql {T : List Shp} {c : Cm} {n X Y : Nat} {a : List V} {v : Int} {L1 L2 : List Nat} {G : List Int} (h : REL T c n) (hc : QL T (fun r c' => r = v ∧ Off L1 [] c c') (ccal X (vR 1 :: a) (SH T, c))) (hr : ∀ c1, c1 79 = c 79 → Off L1 [] c c1 → QL T (fun r c' => r = v ∧ Off L2 G c1 c') (ccal Y (vR 78 :: a) (SH T, c1))) (l1 : (L1.all fun q => scq q) = true) (l2 : (L2.all fun q => scq q) = true) (g : (G.all fun j => !LKF.contains j) = true) (s1 : (L1.all fun q => Nat.ble q 999999) = true) (s2 : (L2.all fun q => Nat.ble q 999999) = true) : JL T c n X Y a := by
  refine hc.mono fun r c1 k => ?_
  have w1 := h.off k.2 l1 rfl
  have e79 : c1 79 = c 79 := by
    funext j
    refine k.2 79 j ?_ fun e => absurd e (by decide)
    cases e : L1.contains 79 with
    | false => rfl
    | true =>
      have := (List.all_eq_true.mp l1) 79 (List.contains_iff_mem.mp e)
      exact absurd this (by decide)
  refine ⟨k.2.sc s1, (hr c1 e79 k.2).mono fun r' c2 k2 => ?_⟩
  exact ⟨k2.1.trans k.1.symm, (k.2.sc s1).trans (k2.2.sc s2), (w1.off k2.2 l2 g).up1⟩
