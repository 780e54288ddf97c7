/-! THE CLERK's engine: pieces of an order (as the judge's) -/
noncomputable def HDB (T : List Shp) (p t : Int) (c : Cm) : Res := cev 20 2 11 [vR 70, vR 12, vU, vR 72, vI p, vI t, vU, vU] [] (SH T, c)
def STB (c : Cm) (S W : Int → Int) (n : Int) : Prop := c 13 = S ∧ c 11 3 = n ∧ ∀ i, 0 ≤ i → i < 18 → c 71 i = W i
theorem STB.off {c c' : Cm} {S W : Int → Int} {n : Int} (h : STB c S W n) (o : Off [69, 70] [] c c') : STB c' S W n := by
  unfold STB
  rw [o.cell (q := 13) rfl, o.cell (q := 11) rfl, o.cell (q := 71) rfl]
  exact h
def PCB (T : List Shp) (S W : Int → Int) (n : Int) (need : Int) (p q : Int) (o : Option Int) : Prop := ∀ (Q : Res → Prop) (c : Cm) (t h : Int), STB c S W n → c 69 1 = h → 0 ≤ h → h + need ≤ 100 → 0 ≤ t → t + (q - p) ≤ 449 → (o = none → ∀ c', Off [69, 70] [] c c' → Q (some (some (vI 0), (SH T, c')))) → (∀ y, o = some y → ∀ c' t', Off [69, 70] [] c c' → c' 69 1 = h + 1 → c' 70 h = y → (∀ j, 0 ≤ j → j < h → c' 70 j = c 70 j) → t ≤ t' → t' ≤ t + (q - p) → Q (HDB T q t' c')) → Q (HDB T p t c)
theorem PCB_num {T : List Shp} {S W : Int → Int} {n p k : Int} (hp : 0 ≤ p ∧ p < n) (hn : n ≤ 450) (hS : S p = 0 + 16 * k) (hk : 0 ≤ k ∧ k < 67108864) : PCB T S W n 1 p (p + 1) (some k) := by
  intro Q c t h hst hh h0 hneed ht htq _ hok
  have dd := deed_of (d := 0) (k := k) (by omega) hk
  refine W_X3_worksb_11 ⟨fun _ => ?_, fun z => absurd (show t < 450 by omega) z⟩
  rw [hst.2.1, hst.1, hS, dd.1, dd.2]
  refine ⟨fun _ => ⟨⟨by omega, by omega⟩, fun _ => ?_, fun z => absurd rfl z⟩, fun z => absurd hp z⟩
  refine W_X3_worksb_68 ⟨fun _ => ⟨fun z => absurd z (by decide), fun _ => ?_⟩, fun z => absurd (show c 69 1 < 100 by omega) z⟩
  refine W_X3_worksb_95 ⟨fun _ => ⟨by omega, ?_⟩, fun z => absurd rfl z⟩
  rw [hh]
  refine hok k rfl _ (t + 1) ((Off.rfl.wr rfl).wr rfl) up_same ?_ (fun j a b => ?_) (by omega) (by omega)
  · rw [up_cell (by decide), up_same]
  · rw [up_cell (by decide), up_ne (by omega)]
theorem PCB_word {T : List Shp} {S W : Int → Int} {n p k : Int} (hp : 0 ≤ p ∧ p < n) (hn : n ≤ 450) (hS : S p = 1 + 16 * k) (hk : 0 ≤ k ∧ k < 18) : PCB T S W n 1 p (p + 1) (some (W k)) := by
  intro Q c t h hst hh h0 hneed ht htq _ hok
  have dd := deed_of (d := 1) (k := k) (by omega) (by omega)
  refine W_X3_worksb_11 ⟨fun _ => ?_, fun z => absurd (show t < 450 by omega) z⟩
  rw [hst.2.1, hst.1, hS, dd.1, dd.2]
  refine ⟨fun _ => ⟨⟨by omega, by omega⟩, fun z => absurd z (by decide), fun _ => ⟨fun _ => ?_, fun z => absurd rfl z⟩⟩, fun z => absurd hp z⟩
  refine W_X3_worksb_68 ⟨fun _ => ⟨fun _ => ⟨fun _ => ?_, fun z => absurd hk.2 z⟩, fun z => absurd rfl z⟩, fun z => absurd (show c 69 1 < 100 by omega) z⟩
  refine W_X3_worksb_95 ⟨fun z => absurd z (by decide), fun _ => ⟨by omega, ?_⟩⟩
  rw [hh, hst.2.2 k hk.1 hk.2]
  refine hok (W k) rfl _ (t + 1) ((Off.rfl.wr rfl).wr rfl) up_same ?_ (fun j a b => ?_) (by omega) (by omega)
  · rw [up_cell (by decide), up_same]
  · rw [up_cell (by decide), up_ne (by omega)]
/-- 1 less the value -/
theorem PCB_not {T : List Shp} {S W : Int → Int} {n p q need : Int} {o : Option Int} (hpq : 0 ≤ p ∧ p ≤ q) (hq : q < n) (hn : n ≤ 450) (h1 : PCB T S W n need p q o) (hneed : 1 ≤ need) (hb : ∀ y, o = some y → -1000000000 ≤ y ∧ y ≤ 1000000000) (hS : S q = 9 + 16 * 0) : PCB T S W n need p (q + 1) (o.map fun y => 1 - y) := by
  intro Q c t h hst hh h0 hn2 ht htq hno hok
  have dd := deed_of (d := 9) (k := 0) (by omega) (by omega)
  refine h1 Q c t h hst hh h0 hn2 ht (by omega) (fun e => hno (by rw [e]; rfl)) fun y ey c1 t1 o1 k1 k2 k3 k4 k5 => ?_
  have st1 := hst.off o1
  have yb := hb y ey
  refine W_X3_worksb_11 ⟨fun _ => ?_, fun z => absurd (show t1 < 450 by omega) z⟩
  rw [st1.2.1, st1.1, hS, dd.1, dd.2, k1, show h + 1 - 1 = h from by omega, k2]
  refine ⟨fun _ => ⟨⟨by omega, by omega⟩, fun z => absurd z (by decide), fun _ => ⟨fun z => absurd z (by decide), fun _ => ⟨fun z => absurd z (by omega), fun _ => ⟨fun z => absurd z (by decide), fun _ => ⟨fun _ => ⟨by omega, ?_⟩, fun z => absurd rfl z⟩⟩⟩⟩⟩, fun z => absurd (show 0 ≤ q ∧ q < n by omega) z⟩
  refine hok (1 - y) (by rw [ey]; rfl) _ (t1 + 1) (o1.wr rfl) ?_ up_same (fun j a b => ?_) (by omega) (by omega)
  · rw [up_cell (by decide)]; exact k1
  · rw [up_ne (by omega)]; exact k3 j a b
theorem c_joinsb {T : List Shp} {c : Cm} {d a b H : Int} (hd : 2 ≤ d ∧ d ≤ 8) (hH : 2 ≤ H ∧ H ≤ 100) (eH : c 69 1 = H) (ea : c 70 (H - 2) = a) (eb : c 70 (H - 1) = b) (ha : -1000000000 ≤ a ∧ a ≤ 1000000000) (hb : -1000000000 ≤ b ∧ b ≤ 1000000000) : QI T (fun r c' => (bin d a b = none → r = 0) ∧ (∀ y, bin d a b = some y → r = 1 ∧ c' 69 1 = H - 1 ∧ c' 70 (H - 2) = y) ∧ (∀ j, j ≠ H - 2 → c' 70 j = c 70 j) ∧ Off [69, 70] [] c c') (ccal 21 [vR 70, vI d] (SH T, c)) := by
  have mb := mul_big ha hb
  have tb := tdiv_big (b := b) ha
  have fin : ∀ r : Int, r = bnr d a b → ¬ (d = 5 ∧ b = 0) → QI T (fun r c' => (bin d a b = none → r = 0) ∧ (∀ y, bin d a b = some y → r = 1 ∧ c' 69 1 = H - 1 ∧ c' 70 (H - 2) = y) ∧ (∀ j, j ≠ H - 2 → c' 70 j = c 70 j) ∧ Off [69, 70] [] c c') (cev 21 1 187 [vR 70, vU, vU, vU, vU, vU, vL r, vU] [] (SH T, c)) := by
    intro r er h5
    have eb' : bin d a b = if 1000000000 < r ∨ r < -1000000000 then none else some r := by
      unfold bin
      rw [if_neg h5, ← er]
    rw [eb']
    refine W_X3_joinsb_187 ⟨fun e => QI.ret ⟨fun _ => rfl, fun y hy => ?_, fun j _ => rfl, Off.rfl⟩, fun e => ⟨fun e2 => QI.ret ⟨fun _ => rfl, fun y hy => ?_, fun j _ => rfl, Off.rfl⟩, fun e2 => ?_⟩⟩
    · rw [if_pos (.inl e)] at hy; exact absurd hy (by simp)
    · rw [if_pos (.inr e2)] at hy; exact absurd hy (by simp)
    · rw [eH, w32_id (by omega) (by omega), show H - 1 - 1 = H - 2 from by omega]
      refine ⟨by omega, QI.ret ⟨fun hy => ?_, fun y hy => ⟨rfl, ?_, ?_⟩, fun j hj => ?_, (Off.rfl.wr rfl).wr rfl⟩⟩
      · rw [if_neg (by omega)] at hy; exact absurd hy (by simp)
      · rw [up_cell (by decide), up_same]
      · rw [if_neg (by omega)] at hy
        rw [up_same]
        exact Option.some.inj hy
      · rw [up_ne hj, up_cell (by decide)]
  have mid : ¬ (d = 5 ∧ b = 0) → QI T (fun r c' => (bin d a b = none → r = 0) ∧ (∀ y, bin d a b = some y → r = 1 ∧ c' 69 1 = H - 1 ∧ c' 70 (H - 2) = y) ∧ (∀ j, j ≠ H - 2 → c' 70 j = c 70 j) ∧ Off [69, 70] [] c c') (cev 21 1 51 [vR 70, vI d, vL a, vU, vL b, vU, vU, vU] [] (SH T, c)) := by
    intro h5
    refine W_X3_joinsb_51 ⟨fun e => ⟨by omega, fin _ ?_ h5⟩, fun e => ⟨by omega, fin _ ?_ h5⟩, fun e => ⟨by omega, fin _ ?_ h5⟩, fun e => ⟨fun e2 => fin _ ?_ h5, fun e2 => ⟨⟨by omega, e2⟩, fin _ ?_ h5⟩⟩, fun e => ⟨fun e2 => fin _ ?_ h5, fun e2 => fin _ ?_ h5⟩, fun e => ⟨fun e2 => fin _ ?_ h5, fun e2 => fin _ ?_ h5⟩, fun e => ⟨fun e2 => fin _ ?_ h5, fun e2 => fin _ ?_ h5⟩⟩ <;> unfold bnr
    · rw [if_pos e]
    · rw [if_neg (by omega), if_pos e]
    · rw [if_neg (by omega), if_neg (by omega), if_pos e]
    · rw [if_neg (by omega), if_neg (by omega), if_neg (by omega), if_pos e, if_pos e2]
    · rw [if_neg (by omega), if_neg (by omega), if_neg (by omega), if_pos e, if_neg e2]
    · rw [if_neg (by omega), if_neg (by omega), if_neg (by omega), if_neg (by omega), if_pos e, if_pos e2]
    · rw [if_neg (by omega), if_neg (by omega), if_neg (by omega), if_neg (by omega), if_pos e, if_neg e2]
    · rw [if_neg (by omega), if_neg (by omega), if_neg (by omega), if_neg (by omega), if_neg (by omega), if_pos e, if_pos e2]
    · rw [if_neg (by omega), if_neg (by omega), if_neg (by omega), if_neg (by omega), if_neg (by omega), if_pos e, if_neg e2]
    · rw [if_neg (by omega), if_neg (by omega), if_neg (by omega), if_neg (by omega), if_neg (by omega), if_neg (by omega), if_pos e2]
    · rw [if_neg (by omega), if_neg (by omega), if_neg (by omega), if_neg (by omega), if_neg (by omega), if_neg (by omega), if_neg e2]
  refine W_X3_joinsb (Q := QI T _) ⟨fun z => absurd z (by omega), fun _ => ?_⟩
  rw [eH, ea, eb]
  refine ⟨by omega, fun e => ⟨fun e2 => QI.ret ⟨fun _ => rfl, fun y hy => ?_, fun j _ => rfl, Off.rfl⟩, fun e2 => mid (fun z => e2 z.2)⟩, fun e => mid (fun z => e z.1)⟩
  unfold bin at hy
  rw [if_pos ⟨e, e2⟩] at hy
  exact absurd hy (by simp)
theorem PCB_bin {T : List Shp} {S W : Int → Int} {n p m q d n1 n2 : Int} {o1 o2 : Option Int} (hpq : 0 ≤ p ∧ p ≤ m ∧ m ≤ q) (hq : q < n) (hn : n ≤ 450) (hd : 2 ≤ d ∧ d ≤ 8) (h1 : PCB T S W n n1 p m o1) (h2 : PCB T S W n n2 m q o2) (hn1 : 1 ≤ n1) (hn2 : 1 ≤ n2) (b1 : ∀ y, o1 = some y → -1000000000 ≤ y ∧ y ≤ 1000000000) (b2 : ∀ y, o2 = some y → -1000000000 ≤ y ∧ y ≤ 1000000000) (hS : S q = d + 16 * 0) : PCB T S W n (if n1 < n2 + 1 then n2 + 1 else n1) p (q + 1) (o1.bind fun a => o2.bind fun b => bin d a b) := by
  intro Q c t h hst hh h0 hneed ht htq hno hok
  have nb : h + n1 ≤ 100 ∧ h + 1 + n2 ≤ 100 := by split at hneed <;> omega
  have dd := deed_of (d := d) (k := 0) (by omega) (by omega)
  refine h1 Q c t h hst hh h0 nb.1 ht (by omega) (fun e => hno (by rw [e]; rfl)) fun a ea c1 t1 q1 k1 k2 k3 k4 k5 => ?_
  have st1 := hst.off q1
  have ab := b1 a ea
  refine h2 Q c1 t1 (h + 1) st1 k1 (by omega) nb.2 (by omega) (by omega) (fun e c' oc => hno (by rw [ea, e]; rfl) c' (q1.trans oc)) fun b eb c2 t2 q2 j1 j2 j3 j4 j5 => ?_
  have st2 := st1.off q2
  have bb := b2 b eb
  have o12 := q1.trans q2
  have ka : c2 70 h = a := (j3 h h0 (by omega)).trans k2
  have eo : (o1.bind fun a => o2.bind fun b => bin d a b) = bin d a b := by rw [ea, eb]; rfl
  rw [eo] at hno hok
  refine W_X3_worksb_11 ⟨fun _ => ?_, fun z => absurd (show t2 < 450 by omega) z⟩
  rw [st2.2.1, st2.1, hS, dd.1, dd.2, j1]
  refine ⟨fun _ => ⟨⟨by omega, by omega⟩, fun z => absurd z (by omega), fun _ => ⟨fun z => absurd z (by omega), fun _ => ⟨fun z => absurd z (by omega), fun _ => ⟨fun z => absurd z (by omega), fun _ => ⟨fun z => absurd z (by omega), fun _ => ⟨fun z => absurd z (by omega), fun _ => ⟨fun z => absurd z (by omega), fun _ => ?_⟩⟩⟩⟩⟩⟩⟩, fun z => absurd (show 0 ≤ q ∧ q < n by omega) z⟩
  refine (c_joinsb (a := a) (b := b) (H := h + 2) hd (by omega) (by omega) (by rw [show h + 2 - 2 = h from by omega]; exact ka) (by rw [show h + 2 - 1 = h + 1 from by omega]; exact j2) ab bb).mono fun r c3 h3 => ?_
  obtain ⟨r0, r1, k, oc⟩ := h3
  rw [show h + 2 - 2 = h from by omega] at r1 k
  rw [show h + 2 - 1 = h + 1 from by omega] at r1
  cases e : bin d a b with
  | none => exact ⟨fun _ => hno e c3 (o12.trans oc), fun z => absurd (r0 e) z⟩
  | some y =>
    have r1' := r1 y e
    refine ⟨fun z => by omega, fun _ => ⟨by omega, ?_⟩⟩
    exact hok y e c3 (t2 + 1) (o12.trans oc) r1'.2.1 r1'.2.2 (fun j a' b' => ((k j (by omega)).trans (j3 j a' (by omega))).trans (k3 j a' b')) (by omega) (by omega)
theorem PCB_or {T : List Shp} {S W : Int → Int} {n p m q d n1 n2 : Int} {o1 o2 : Option Int} (hpq : 0 ≤ p ∧ p ≤ m ∧ m + 1 ≤ q) (hq : q ≤ n) (hn : n ≤ 450) (hd : d = 10 ∨ d = 11) (h1 : PCB T S W n n1 p m o1) (h2 : PCB T S W n n2 (m + 1) q o2) (hn1 : 1 ≤ n1) (hS : S m = d + 16 * q) : PCB T S W n (if n1 < n2 then n2 else n1) p q (o1.bind fun a => if a = (if d = 10 then 1 else 0) then some a else o2) := by
  intro Q c t h hst hh h0 hneed ht htq hno hok
  have nb : h + n1 ≤ 100 ∧ h + n2 ≤ 100 := by split at hneed <;> omega
  have dd := deed_of (d := d) (k := q) (by omega) (by omega)
  refine h1 Q c t h hst hh h0 nb.1 ht (by omega) (fun e => hno (by rw [e]; rfl)) fun a ea c1 t1 q1 k1 k2 k3 k4 k5 => ?_
  have st1 := hst.off q1
  have eo : (o1.bind fun a => if a = (if d = 10 then 1 else 0) then some a else o2) = if a = (if d = 10 then 1 else 0) then some a else o2 := by rw [ea]; rfl
  rw [eo] at hno hok
  have last : ∀ y0 : Int, y0 = (if d = 10 then 1 else 0) → Q (cev 20 2 231 [vR 70, vR 12, vU, vR 72, vI (m + 1), vI t1, vU, vI q] [vI y0, vI a] (SH T, c1)) := by
    intro y0 ey
    rw [← ey] at hno hok
    refine W_X3_worksb_231 ⟨fun e => ⟨by omega, ?_⟩, fun e => ⟨by omega, ?_⟩⟩
    · rw [if_pos e] at hok
      exact hok a rfl c1 (t1 + 1) q1 k1 k2 k3 (by omega) (by omega)
    · rw [if_neg e] at hno hok
      rw [k1, show h + 1 - 1 = h from by omega]
      have ow : Off [69, 70] [] c1 (up c1 69 1 h) := Off.rfl.wr rfl
      refine h2 Q (up c1 69 1 h) (t1 + 1) h (st1.off ow) up_same h0 nb.2 (by omega) (by omega) (fun e c' oc => hno e c' ((q1.trans ow).trans oc)) fun b eb c2 t2 q2 j1 j2 j3 j4 j5 => ?_
      refine hok b eb c2 t2 ((q1.trans ow).trans q2) j1 j2 (fun j a' b' => ?_) (by omega) (by omega)
      rw [j3 j a' b', up_cell (by decide)]
      exact k3 j a' b'
  refine W_X3_worksb_11 ⟨fun _ => ?_, fun z => absurd (show t1 < 450 by omega) z⟩
  rw [st1.2.1, st1.1, hS, dd.1, dd.2, k1]
  refine ⟨fun _ => ⟨⟨by omega, by omega⟩, fun z => absurd z (by omega), fun _ => ⟨fun z => absurd z (by omega), fun _ => ⟨fun z => absurd z (by omega), fun _ => ⟨fun z => absurd z (by omega), fun _ => ⟨fun z => absurd z (by omega), fun _ => ⟨fun z => ?_, fun z => ⟨fun z2 => ?_, fun z2 => absurd hd (by omega)⟩⟩⟩⟩⟩⟩⟩, fun z => absurd (show 0 ≤ m ∧ m < n by omega) z⟩
  · refine W_X3_worksb_208 ⟨by omega, fun y => ?_, fun y => absurd z y⟩
    rw [k1, show h + 1 - 1 = h from by omega, k2]
    exact last 1 (by rw [if_pos z])
  · refine W_X3_worksb_208 ⟨by omega, fun y => absurd y z, fun y => ?_⟩
    rw [k1, show h + 1 - 1 = h from by omega, k2]
    exact last 0 (by rw [if_neg z])
theorem c_worksb {T : List Shp} {c : Cm} {S W : Int → Int} {n p q need : Int} {o : Option Int} (hpq : 0 ≤ p ∧ p ≤ q ∧ q - p ≤ 449) (hq : q < n) (hn : n ≤ 450) (hneed : need ≤ 100) (h1 : PCB T S W n need p q o) (hst : STB c S W n) (hS : S q = 12 + 16 * 0) : QI T (fun r c' => (o = none → r = 0) ∧ (∀ y, o = some y → r = 1 ∧ c' 69 2 = y) ∧ Off [69, 70] [] c c') (ccal 20 [vR 70, vR 12, vI p, vR 72] (SH T, c)) := by
  have dd := deed_of (d := 12) (k := 0) (by omega) (by omega)
  have o0 : Off [69, 70] [] c (up c 69 1 0) := Off.rfl.wr rfl
  refine W_X3_worksb (Q := QI T _) ?_
  refine h1 (QI T _) (up c 69 1 0) 0 0 (hst.off o0) up_same (by omega) (by omega) (by omega) (by omega) (fun e c' oc => QI.ret ⟨fun _ => rfl, fun y ey => ?_, o0.trans oc⟩) fun y ey c1 t1 q1 k1 k2 k3 k4 k5 => ?_
  · rw [e] at ey; exact absurd ey (by simp)
  · have st1 := (hst.off o0).off q1
    refine W_X3_worksb_11 ⟨fun _ => ?_, fun z => absurd (show t1 < 450 by omega) z⟩
    rw [st1.2.1, st1.1, hS, dd.1, dd.2, k1]
    refine ⟨fun _ => ⟨⟨by omega, by omega⟩, fun z => absurd z (by decide), fun _ => ⟨fun z => absurd z (by decide), fun _ => ⟨fun z => absurd z (by decide), fun _ => ⟨fun _ => QI.ret ⟨fun en => ?_, fun y' ey' => ⟨rfl, ?_⟩, (o0.trans q1).wr rfl⟩, fun z => absurd rfl z⟩⟩⟩⟩, fun z => absurd (show 0 ≤ q ∧ q < n by omega) z⟩
    · rw [ey] at en; exact absurd en (by simp)
    · rw [up_same, k2]
      rw [ey] at ey'
      exact Option.some.inj ey'
