/-! ORDERS: the reference runs one order once, test and all -/
def RUA (c : Cm) (B : Int × (Int → Int)) (n r : Int) (c' : Cm) : Prop := r = B.1 ∧ c' 79 = B.2 ∧ c' 77 55 = (if B.1 < 0 then n else n + 1) ∧ AX c' ∧ Off [79, 92, 93, 94, 95, 96, 97, 98, 99, 100] [16, 30, 34, 35, 36, 44, 45, 46, 55] c c'
def RUN (c : Cm) (B : Int × (Int → Int)) (w : Bool) (n r : Int) (c' : Cm) : Prop := (w = false → r = 0 ∧ c' 79 = c 79 ∧ c' 77 55 = n ∧ AX c' ∧ Off [79, 92, 93, 94, 95, 96, 97, 98, 99, 100] [16, 30, 34, 35, 36, 44, 45, 46, 55] c c') ∧ (w = true → RUA c B n r c')
theorem AX.w55 {c : Cm} {v : Int} (h : AX c) : AX (up c 77 55 v) := by
  unfold AX
  rw [up_ne (by decide), up_ne (by decide), up_ne (by decide)]
  exact h
theorem r_run49 {T : List Shp} {c : Cm} {F : List Clz} {n x q : Int} {z : Orc} (h : RWd c F) (hx : AX c) (hn : 0 ≤ n ∧ n ≤ 1000) (h55 : c 77 55 = n) (h93 : ∀ i, 1 ≤ i → i ≤ 6 → c 93 i = wO F (c 79) n i) (ha : 0 ≤ x ∧ x < 111) (hq : q ≤ 400) (hz : ZRa 1 (c 107) x (c 85) (c 86) q z) (hw : wfo z) : QI T (RUA c (oaw F (c 79) (wO F (c 79) n) z) n) (cev 331 11 49 [vR 78, vI x, vU, vU] [] (SH T, c)) := by
  refine W_X12_run_49 (Q := QI T _) ⟨by omega, ?_⟩
  refine (r_doAct h hx hn h93 (by omega) hq hz hw).mono fun v c2 g => ?_
  obtain ⟨g1, g2, g3, o⟩ := g
  have e55 : c2 77 55 = n := by rw [o.fld rfl]; exact h55
  have o2 : ∀ k, Off [79, 92, 93, 94, 95, 96, 97, 98, 99, 100] [16, 30, 34, 35, 36, 44, 45, 46, 55] c (up c2 77 55 k) := fun k => (o.mono rfl rfl).wr rfl
  have e79 : ∀ k, (up c2 77 55 k) 79 = c2 79 := fun k => up_cell (by decide)
  rw [e55]
  rcases g1 with ⟨b0, v0⟩ | ⟨b0, v0⟩
  · refine ⟨fun e => absurd e (by omega), fun _ => ?_⟩
    refine W_X12_run_75 (Q := QI T _) ⟨by omega, fun e => absurd e (by omega), fun _ => QI.ret ⟨b0.symm, by rw [e79]; exact g2, ?_, g3.w55, o2 _⟩⟩
    rw [up_same, b0, if_neg (by omega)]
  · refine ⟨fun _ => ?_, fun e => absurd (v0 ▸ b0) e⟩
    refine W_X12_run_75 (Q := QI T _) ⟨by omega, fun _ => QI.ret ⟨v0, by rw [e79]; exact g2, ?_, g3.w55, o2 _⟩, fun e => absurd (v0 ▸ b0) e⟩
    rw [up_same, if_pos b0]
    omega
theorem RUA.pre {c c1 : Cm} {B : Int × (Int → Int)} {n r : Int} {c' : Cm} (h : RUA c1 B n r c') (o : Off [79, 92, 93, 94, 95, 96, 97, 98, 99, 100] [16, 30, 34, 35, 36, 44, 45, 46, 55] c c1) : RUA c B n r c' := ⟨h.1, h.2.1, h.2.2.1, h.2.2.2.1, o.trans h.2.2.2.2⟩
theorem r_run {T : List Shp} {c : Cm} {F : List Clz} {n x q : Int} {z : Orc} (h : RWd c F) (hx : AX c) (hn : 0 ≤ n ∧ n ≤ 1000) (h55 : c 77 55 = n) (ha : 0 ≤ x ∧ x < 111) (hq : q ≤ 400) (hz : ZRa 1 (c 107) x (c 85) (c 86) q z) (ht : ZRt 18 (c 107) (x + 7) (c 85) (c 86) q z.2.2.1) (hw : wfo z) : QI T (RUN c (oaw F (c 79) (wO F (c 79) n) z) (wnt (wO F (c 79) n) z) n) (ccal 331 [vR 78, vI x] (SH T, c)) := by
  refine W_X12_run (Q := QI T _) ?_
  refine (r_setNow h h55).mono fun c1 g => ?_
  obtain ⟨g1, o⟩ := g
  have w1 := h.off o rfl
  have x1 := hx.off o rfl
  have e79 : c1 79 = c 79 := o.cell rfl
  have e85 : c1 85 = c 85 := o.cell rfl
  have e86 : c1 86 = c 86 := o.cell rfl
  have e107 : c1 107 = c 107 := o.cell rfl
  have e55 : c1 77 55 = n := by rw [o.fld rfl]; exact h55
  have o1 : Off [79, 92, 93, 94, 95, 96, 97, 98, 99, 100] [16, 30, 34, 35, 36, 44, 45, 46, 55] c c1 := o.mono rfl rfl
  refine ⟨by omega, fun e => ⟨by omega, ?_⟩, fun e => ?_⟩
  · rw [e107] at e
    have ht' := ht
    unfold ZRt at ht'
    cases et : z.2.2.1 with
    | none =>
      rw [et] at ht'
      have t2 : c 107 (x + 7 + 1) ≤ c 107 (x + 7) := ht'
      rw [show x + 7 + 1 = x + 8 from by omega] at t2
      omega
    | some d =>
      rw [et] at ht'
      have t2 : PRL 18 (c 85) (c 86) q (c 107 (x + 7)) (c 107 (x + 7 + 1)) d ∧ TDn d := ht'
      have ew : ∀ W, wnt W z = (d W == some 1) := fun W => by unfold wnt; rw [et]
      refine (r_osum (d := d) w1 hn (fun i a b => by rw [e79]; exact g1 i a b) (by omega) hq (by rw [e85, e86, e107]; exact t2.1)).mono fun v c2 k => ?_
      rw [e79] at k
      obtain ⟨k1, k2, k3, k4⟩ := k
      have x2 := x1.o16 k2 rfl k1.2.2
      have o2 := o1.trans (k2.mono rfl rfl)
      have f79 : c2 79 = c 79 := by rw [k2.cell (q := 79) rfl]; exact e79
      have f55 : c2 77 55 = n := by rw [k2.fld rfl]; exact e55
      have no : wnt (wO F (c 79) n) z = false → RUN c (oaw F (c 79) (wO F (c 79) n) z) (wnt (wO F (c 79) n) z) n 0 c2 := fun e0 => ⟨fun _ => ⟨rfl, f79, f55, x2, o2⟩, fun e1 => absurd (e0 ▸ e1) (by decide)⟩
      cases ed : d (wO F (c 79) n) with
      | none => exact ⟨fun e0 => absurd (k3 ed) (by omega), fun _ => QI.ret (no (by rw [ew, ed]; rfl))⟩
      | some y =>
        have k5 := k4 y ed
        have y01 := t2.2 _ _ ed
        refine ⟨fun _ => ⟨fun e0 => QI.ret (no ?_), fun e0 => ?_⟩, fun e0 => absurd k5.1 e0⟩
        · rw [ew, ed, ← k5.2, e0]; rfl
        · have y1 : y = 1 := by omega
          have wy : wnt (wO F (c 79) n) z = true := by rw [ew, ed, y1]; rfl
          have b85 : c2 85 = c 85 := by rw [k2.cell (q := 85) rfl]; exact e85
          have b86 : c2 86 = c 86 := by rw [k2.cell (q := 86) rfl]; exact e86
          have b107 : c2 107 = c 107 := by rw [k2.cell (q := 107) rfl]; exact e107
          have b93 : c2 93 = c1 93 := k2.cell (q := 93) rfl
          have := r_run49 (T := T) (x := x) k1 x2 hn f55 (fun i a b => by rw [f79, b93]; exact g1 i a b) (by omega) hq (by rw [b85, b86, b107]; exact hz) hw
          rw [f79] at this
          exact this.mono fun r c' s => ⟨fun e1 => absurd (e1 ▸ wy) (by decide), fun _ => s.pre o2⟩
  · rw [e107] at e
    have ht' := ht
    unfold ZRt at ht'
    cases et : z.2.2.1 with
    | some d =>
      rw [et] at ht'
      have t2 : PRL 18 (c 85) (c 86) q (c 107 (x + 7)) (c 107 (x + 7 + 1)) d ∧ TDn d := ht'
      obtain ⟨l, p1, _⟩ := t2.1
      have lt := p1.lt
      rw [show x + 7 + 1 = x + 8 from by omega] at lt
      omega
    | none =>
      have wy : wnt (wO F (c 79) n) z = true := by unfold wnt; rw [et]
      have := r_run49 (T := T) (x := x) w1 x1 hn e55 (fun i a b => by rw [e79]; exact g1 i a b) (by omega) hq (by rw [e85, e86, e107]; exact hz) hw
      rw [e79] at this
      exact this.mono fun r c' s => ⟨fun e1 => absurd (e1 ▸ wy) (by decide), fun _ => s.pre o1⟩
