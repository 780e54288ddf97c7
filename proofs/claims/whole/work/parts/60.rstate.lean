/-! THE REFERENCE READS: states, what they lead to -/
def RST (c : Cm) (o : Int) (B : Int → Int) (L p n b q : Int) (P : Pil) : Prop := ER c B L p ∧ KW c ∧ c 77 16 = o ∧ c 77 22 = n ∧ c 77 26 = b ∧ c 77 19 = q ∧ c 77 25 = (P.length : Int) ∧ PLm c P ∧ PV P ∧ (c 77 15 = 0 ∧ c 77 14 = -1) ∧ (0 ≤ q ∧ q + (P.length : Int) ≤ p) ∧ (0 ≤ n ∧ n ≤ 50) ∧ (0 ≤ b ∧ b ≤ 8)
def FLT (c : Cm) (f : Int) : Prop := c 77 15 = 1 ∧ c 77 14 = f ∧ 0 ≤ c 77 19 ∧ ∃ P : Pil, c 77 25 = (P.length : Int) ∧ PLm c P ∧ PV P ∧ c 77 19 + (P.length : Int) ≤ 400
def RFQ (q : Int) (c c' : Cm) : Prop := Fr RXA c c' ∧ ∀ j, j < q → c' 85 j = c 85 j ∧ c' 86 j = c 86 j
theorem RFQ.rfl {q : Int} {c : Cm} : RFQ q c c := ⟨Fr.rfl, fun _ _ => ⟨Eq.refl _, Eq.refl _⟩⟩
theorem RFQ.trans {q q' : Int} {a b c : Cm} (h1 : RFQ q a b) (h2 : RFQ q' b c) (hq : q ≤ q') : RFQ q a c := ⟨h1.1.trans h2.1, fun j x => ⟨(h2.2 j (by omega)).1.trans (h1.2 j x).1, (h2.2 j (by omega)).2.trans (h1.2 j x).2⟩⟩
theorem RFQ.wk {q q' : Int} {a b : Cm} (h : RFQ q' a b) (hq : q ≤ q') : RFQ q a b := ⟨h.1, fun j x => h.2 j (by omega)⟩
theorem RFQ.nxr {q : Int} {c c' : Cm} (f : Fr NXR c c') : RFQ q c c' := ⟨f.mono fun q j a => a.rxa, fun j _ => ⟨f 85 j (by unfold NXR; omega), f 86 j (by unfold NXR; omega)⟩⟩
theorem KW.nxr {c c' : Cm} (h : KW c) (f : Fr RXA c c') : KW c' := h.cong (f.cell (q := 89) (by intro j; unfold RXA; omega)) (f.cell (q := 90) (by intro j; unfold RXA; omega)) (f.cell (q := 91) (by intro j; unfold RXA; omega))
theorem RST.next {c c' : Cm} {o : Int} {B : Int → Int} {L p n b q : Int} {P : Pil} (h : RST c o B L p n b q P) (f : Fr NXR c c') (e : ER c' B L (nx B L p)) : RST c' o B L (nx B L p) n b q P := by
  obtain ⟨h1, h2, h3, h4, h5, h6, h7, h8, h9, h10, h11, h12⟩ := h
  have g : ∀ j, 14 ≤ j → c' 77 j = c 77 j := fun j a => f 77 j (by unfold NXR; omega)
  have nb := nx_bd (B := B) h1.pL.2.1
  exact ⟨e, h2.nxr (f.mono fun q j a => a.rxa), (g 16 (by decide)).trans h3, (g 22 (by decide)).trans h4, (g 26 (by decide)).trans h5, (g 19 (by decide)).trans h6, (g 25 (by decide)).trans h7, h8.cong fun j a => ⟨f 87 j (by unfold NXR; omega), f 88 j (by unfold NXR; omega)⟩, h9, ⟨(g 15 (by decide)).trans h10.1, (g 14 (by decide)).trans h10.2⟩, by omega, h12⟩
/-- must, that is not -/
theorem r_mustF {T : List Shp} {c : Cm} {B : Int → Int} {L p : Int} (h : ER c B L p) (hb : c 77 15 = 0) : QV T (fun c' => c' = up (up c 77 15 1) 77 14 p) (ccal 223 [vR 78, vI 0] (SH T, c)) := by
  have e10 := h.2.2.2.2.2.1
  refine W_X12_must (Q := QV T _) ⟨fun _ => ⟨fun _ => ?_, fun z => absurd rfl z⟩, fun z => absurd hb z⟩
  rw [e10]
  refine W_X12_must_24 ⟨fun z => ?_, fun _ => QV.ret rfl⟩
  rw [up_ne (by decide), up_same] at z
  exact absurd z (by decide)
theorem r_mustT {T : List Shp} {c : Cm} {B : Int → Int} {L p x : Int} (h : ER c B L p) (hb : c 77 15 = 0) (hx : ¬ x = 0) : QV T (fun c' => Fr NXR c c' ∧ ER c' B L (nx B L p)) (ccal 223 [vR 78, vI x] (SH T, c)) := by
  refine W_X12_must (Q := QV T _) ⟨fun _ => ⟨fun z => absurd z hx, fun _ => ?_⟩, fun z => absurd hb z⟩
  exact W_X12_must_24 ⟨fun _ => h.next.mono fun c1 h1 => QV.ret h1, fun z => absurd hb z⟩
theorem RST.flt {c : Cm} {o : Int} {B : Int → Int} {L p n b q : Int} {P : Pil} (h : RST c o B L p n b q P) : FLT (up (up c 77 15 1) 77 14 p) p ∧ Fr RXA c (up (up c 77 15 1) 77 14 p) := by
  obtain ⟨h1, h2, h3, h4, h5, h6, h7, h8, h9, h10, h11, h12⟩ := h
  have pL := h1.pL
  have g19 : up (up c 77 15 1) 77 14 p 77 19 = c 77 19 := by rw [up_ne (by decide), up_ne (by decide)]
  have g25 : up (up c 77 15 1) 77 14 p 77 25 = c 77 25 := by rw [up_ne (by decide), up_ne (by decide)]
  refine ⟨⟨by rw [up_ne (by decide), up_same], up_same, by rw [g19]; omega, P, g25.trans h7, h8.cong fun j a => ⟨by rw [up_cell (by decide), up_cell (by decide)], by rw [up_cell (by decide), up_cell (by decide)]⟩, h9, by rw [g19]; omega⟩, (Fr.rfl.wr (by unfold RXA; omega)).wr (by unfold RXA; omega)⟩
theorem r_inner {T : List Shp} {c : Cm} {P : Pil} (h25 : c 77 25 = (P.length : Int)) (hl : PLm c P) (hn : P.length ≤ 400) : ccal 230 [vR 78] (SH T, c) = some (some (vI (inn P)), (SH T, c)) := by
  have key : ∀ (k : Nat) (r : Pil) (i : Int), i = (r.length : Int) → k = P.length - r.length → (∃ t, P = t ++ r) → cev 230 1 4 [vR 78, vI (inn r), vI i] [] (SH T, c) = some (some (vI (inn P)), (SH T, c)) := by
    intro k
    induction k with
    | zero =>
      intro r i hi hk ⟨t, ht⟩
      have : t = [] := by
        have := congrArg List.length ht
        rw [List.length_append] at this
        exact List.eq_nil_of_length_eq_zero (by omega)
      rw [this] at ht
      have ht' : P = r := ht
      refine W_X12_inner_4 (Q := fun Z => Z = _) ⟨fun z => absurd z (by rw [h25, ht']; omega), fun _ => by rw [ht']⟩
    | succ k ih =>
      intro r i hi hk ⟨t, ht⟩
      have ll := congrArg List.length ht
      rw [List.length_append] at ll
      have tne : t ≠ [] := by
        intro e
        rw [e] at ll
        simp at ll
        omega
      obtain ⟨t', e, rfl⟩ : ∃ t' e, t = t' ++ [e] := ⟨t.dropLast, t.getLast tne, (List.dropLast_concat_getLast tne).symm⟩
      have ht2 : P = t' ++ (e :: r) := by rw [ht, List.append_assoc]; rfl
      have hm : c 87 (r.length : Int) = e.1 := by
        have g : ∀ (t : Pil), PLm c (t ++ (e :: r)) → PLm c (e :: r) := by
          intro t
          induction t with
          | nil => intro h; exact h
          | cons a t iht => intro h; exact iht h.2.2
        rw [ht2] at hl
        exact (g t' hl).1
      have el : ((e :: r).length : Int) = r.length + 1 := by rw [List.length_cons]; omega
      have l2 : (e :: r).length = r.length + 1 := List.length_cons
      refine W_X12_inner_4 (Q := fun Z => Z = _) ⟨fun _ => ⟨by omega, ?_⟩, fun z => absurd (show i < c 77 25 by omega) z⟩
      rw [hi, hm]
      have nx : cev 230 1 4 [vR 78, vI (inn (e :: r)), vI ((r.length : Int) + 1)] [] (SH T, c) = some (some (vI (inn P)), (SH T, c)) := ih (e :: r) _ (by omega) (by omega) ⟨t', ht2⟩
      have ei : inn (e :: r) = if 30 ≤ e.1 then e.1 else inn r := rfl
      rw [ei] at nx
      exact ⟨fun z => ⟨by omega, by rw [if_neg (by omega)] at nx; exact nx⟩, fun z => ⟨by omega, by rw [if_pos (by omega)] at nx; exact nx⟩⟩
  exact W_X12_inner (Q := fun Z => Z = _) (key P.length [] 0 rfl rfl ⟨P, (List.append_nil P).symm⟩)
theorem r_isCompared {T : List Shp} {c : Cm} {P : Pil} (h25 : c 77 25 = (P.length : Int)) (hl : PLm c P) (hn : P.length ≤ 400) : ccal 231 [vR 78] (SH T, c) = some (some (vI (if cmd P = true then 1 else 0)), (SH T, c)) := by
  have key : ∀ (r : Pil), PLm c r → r.length ≤ 400 → cev 231 2 7 [vR 78, vI ((r.length : Int) - 1)] [] (SH T, c) = some (some (vI (if cmd r = true then 1 else 0)), (SH T, c)) := by
    intro r
    induction r with
    | nil =>
      intro _ _
      exact W_X12_isCompared_7 (Q := fun Z => Z = _) ⟨fun _ => W_X12_isCompared_36 (Q := fun Z => Z = _) ⟨fun _ => rfl, fun z => absurd (show (0 : Int) - 1 < 0 by decide) z⟩, fun z => absurd (show (0 : Int) - 1 < 0 by decide) z⟩
    | cons e r ih =>
      intro h hr
      have l2 : (e :: r).length = r.length + 1 := List.length_cons
      rw [l2, show (((r.length + 1 : Nat) : Int) - 1) = (r.length : Int) from by omega]
      have hi := ih h.2.2 (by omega)
      have ec : cmd (e :: r) = if 20 ≤ e.1 ∧ e.1 ≤ 23 then cmd r else decide (24 ≤ e.1 ∧ e.1 ≤ 26) := rfl
      rw [ec]
      refine W_X12_isCompared_7 (Q := fun Z => Z = _) ⟨fun z => absurd z (by omega), fun _ => ⟨by omega, ?_⟩⟩
      rw [h.1]
      refine ⟨fun z => ⟨by omega, ?_⟩, fun z => ?_⟩
      · rw [if_pos z, show (r.length : Int) + -1 = (r.length : Int) - 1 from by omega]
        exact hi
      · rw [if_neg z]
        refine W_X12_isCompared_36 (Q := fun Z => Z = _) ⟨fun z => absurd z (by omega), fun _ => ⟨by omega, ?_⟩⟩
        rw [h.1]
        refine ⟨fun z2 => ?_, fun z2 => ?_⟩
        · rw [if_pos (decide_eq_true z2)]
        · rw [if_neg (by rw [decide_eq_true_eq]; exact z2)]
  exact W_X12_isCompared (Q := fun Z => Z = _) ⟨by omega, by rw [h25]; exact key P hl hn⟩
/-- settling where the text went wrong -/
theorem r_settleBad {T : List Shp} {k : Int} : ∀ (P : Pil) (c : Cm), c 77 25 = (P.length : Int) → PLm c P → PV P → 0 ≤ c 77 19 → c 77 19 + (P.length : Int) ≤ 400 → QV T (fun c' => Fr RXA c c' ∧ c' 77 15 = c 77 15 ∧ c' 77 14 = c 77 14) (cev 229 2 0 [vR 78, vI k] [] (SH T, c)) := by
  intro P
  induction P with
  | nil =>
    intro c h25 hl hv h0 hn
    exact W_X12_settle (Q := QV T _) ⟨fun z => by rw [h25] at z; exact absurd z (by decide), fun _ => QV.ret ⟨Fr.rfl, rfl, rfl⟩⟩
  | cons e r ih =>
    intro c h25 hl hv h0 hn
    have el : ((e :: r).length : Int) = r.length + 1 := by rw [List.length_cons]; omega
    have he := hv e List.mem_cons_self
    obtain ⟨l1, l2, l3⟩ := hl
    rw [el] at h25 hn
    refine W_X12_settle (Q := QV T _) ⟨fun _ => ⟨by omega, fun _ => QV.ret ⟨Fr.rfl, rfl, rfl⟩, fun _ => ⟨by omega, ?_⟩⟩, fun _ => QV.ret ⟨Fr.rfl, rfl, rfl⟩⟩
    rw [h25, show (r.length : Int) + 1 - 1 = (r.length : Int) from by omega, l1]
    have g : e.1 = 28 ∨ e.1 = 29 → QV T (fun c' => Fr RXA c c' ∧ c' 77 15 = c 77 15 ∧ c' 77 14 = c 77 14) (cev 229 2 63 [vR 78, vI k] [] (SH T, up c 77 25 (r.length : Int))) := by
      intro h28
      have e88 : up c 77 25 (r.length : Int) 88 (up c 77 25 (r.length : Int) 77 25) = e.2 := by rw [up_same, up_cell (by decide)]; exact l2
      have h2 := he.2 h28
      refine W_X12_settle_63 ⟨⟨by rw [up_same]; omega, by rw [e88]; omega⟩, ?_⟩
      rw [e88, up_ne (by decide)]
      refine (ih _ (by rw [up_cell (by decide), up_same]) (l3.cong fun j a => ⟨by rw [up_cell (by decide), up_cell (by decide)], by rw [up_cell (by decide), up_cell (by decide)]⟩) hv.tail (by rw [up_cell (by decide), up_ne (by decide)]; omega) (by rw [up_cell (by decide), up_ne (by decide)]; omega)).mono fun c' hc => ⟨((Fr.rfl.wr (by unfold RXA; omega)).wr (by unfold RXA; omega)).trans hc.1, ?_, ?_⟩
      · rw [hc.2.1, up_cell (by decide), up_ne (by decide)]
      · rw [hc.2.2, up_cell (by decide), up_ne (by decide)]
    refine ⟨fun z => g (.inl z), fun _ => ⟨by omega, fun z => g (.inr z), fun _ => ⟨by omega, ?_⟩⟩⟩
    refine (ih _ (by rw [up_ne (by decide), up_cell (by decide), up_cell (by decide), up_same]) (l3.cong fun j a => ⟨by rw [up_cell (by decide), up_cell (by decide), up_cell (by decide), up_cell (by decide)], by rw [up_cell (by decide), up_cell (by decide), up_cell (by decide), up_cell (by decide)]⟩) hv.tail (by rw [up_same]; omega) (by rw [up_same]; omega)).mono fun c' hc => ⟨((((Fr.rfl.wr (by unfold RXA; omega)).wr (by unfold RXA; omega)).wr (by unfold RXA; omega)).wr (by unfold RXA; omega)).trans hc.1, ?_, ?_⟩
    · rw [hc.2.1, up_ne (by decide), up_cell (by decide), up_cell (by decide), up_ne (by decide)]
    · rw [hc.2.2, up_ne (by decide), up_cell (by decide), up_cell (by decide), up_ne (by decide)]
/-- modes: how strongly what stands beneath may bind, what is pending binds at least; turns -/
def lmm (m : Nat) : Int := if m = 0 then 100 else if m ≤ 2 then 6 else if m ≤ 4 then 5 else if m = 5 then 4 else if m ≤ 7 then 2 else 1
def lkm (m : Nat) : Int := if m = 0 then 100 else if m ≤ 2 then 6 else if m ≤ 4 then 5 else if m = 5 then 3 else if m ≤ 7 then 2 else 1
def etm (m : Nat) : Int := if m ≤ 4 then 3 else 2
def smm (m : Nat) : Int := if m ≤ 4 then 1 else 0
def LPm (m : Nat) : Bool := m == 1 || m == 3 || m == 6 || m == 8
def OPS (lo : Int) (c : Cm) (o : Int) (B : Int → Int) (L p n0 n b q : Int) (P : Pil) (d : Den) : Prop := ∃ (s : Pil) (m l : Int) (x : Den) (k : Int), RST c o B L p n b (c 77 19) (s ++ P) ∧ (∀ e, e ∈ s → lo ≤ bnd e.1 ∧ e.1 < 30) ∧ PXv (NWx o) (c 85) (c 86) s q m l x k d ∧ RP (NWx o) (c 85) (c 86) m (c 77 19) l x ∧ k ≤ n - n0 ∧ 0 ≤ q
def ENDT (m : Nat) (B : Int → Int) (L p : Int) : Prop := (m = 1 ∨ m = 2 ∨ m = 3 ∨ m = 4 → ¬ isg B L p 42 ∧ ¬ isg B L p 47) ∧ (m = 3 ∨ m = 4 → ¬ isg B L p 43 ∧ ¬ isg B L p 45) ∧ (6 ≤ m → ¬ isw B L p 1476) ∧ (8 ≤ m → ¬ isw B L p 498)
def CND (m : Nat) (t : Int) (P : Pil) : Prop := tpb P < lmm m ∧ (5 ≤ m → t = 1 ∧ ¬ inn P = 31)
noncomputable def HX (T : List Shp) (t x : Int) (c : Cm) : Res := cev 240 7 20 [vR 78, vI t, vI x] [] (SH T, c)
def CTN (T : List Shp) (o : Int) (B : Int → Int) (L : Int) (Q : Res → Prop) (t : Int) (c : Cm) (P : Pil) (q b n0 : Int) (m : Nat) (out : Out) : Prop := match out with
  | .inl f => ∀ c' x', Fr RXA c c' → FLT c' f → Q (HX T t x' c')
  | .inr (p', n', d) => ∀ c', RFQ q c c' → OPS (lkm m) c' o B L p' n0 n' b q P d → ENDT m B L p' → (5 ≤ m → TDn d) → Q (HX T t (etm m) c')
def RSL (T : List Shp) (o : Int) (B : Int → Int) (L : Int) (m : Nat) (b p n : Int) (d : Den) (out : Out) : Prop := ∀ (Q : Res → Prop) (t : Int) (c : Cm) (P : Pil) (q n0 : Int), OPS (lkm m) c o B L p n0 n b q P d → n0 ≤ n → (m = 3 → ENDT 2 B L p) → (m = 8 → ENDT 7 B L p) → (5 ≤ m → TDn d) → CND m t P → CTN T o B L Q t c P q b n0 m out → Q (HX T t (etm m) c)
/-- a part, a term, a sum begins with a part read, a test with a plain -/
def STQ (T : List Shp) (Q : Res → Prop) (t : Int) (c : Cm) (m : Nat) : Prop := match m with
  | 0 | 1 | 2 | 3 | 4 => QI T (fun r c2 => Q (HX T t r c2)) (ccal 236 [vR 78] (SH T, c))
  | _ => Q (HX T t 0 c)
def RSN (T : List Shp) (o : Int) (B : Int → Int) (L : Int) (m : Nat) (b p n : Int) (out : Out) : Prop := ∀ (Q : Res → Prop) (t : Int) (c : Cm) (P : Pil) (q : Int), RST c o B L p n b q P → CND m t P → CTN T o B L Q t c P q b n m out → STQ T Q t c m
def RS (T : List Shp) (o : Int) (B : Int → Int) (L : Int) : GX := fun m b p n d out => if LPm m = true then RSL T o B L m b p n d out else RSN T o B L m b p n out
