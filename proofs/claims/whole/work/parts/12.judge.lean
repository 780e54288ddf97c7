theorem c_brushed {T : List Shp} {c : Cm} {R : Int → Int} {p x t a : Int} (h : CS c R) (hR : RNG R) (hp : 0 ≤ p ∧ p < R 0) (hx : 0 ≤ x ∧ x < 12) (ht : 0 ≤ t ∧ t ≤ 9) (ha : 0 ≤ a ∧ a ≤ 9) : ccal 76 [vR 2, vI p, vI x, vI t, vI a] (SH T, c) = some (some (vI (brs R p x t a)), (SH T, c)) := by
  obtain ⟨⟨e0, e2, e5, e7, e8, e11, e13, t0, t1, t2, t3, t4⟩, hf, -⟩ := h
  have h1 := hR.1
  have h2 := hR.2.2.2.1 p hp.1 hp.2
  have h3 := hR.2.2.2.2.1 p (x % 3) hp.1 hp.2 (by omega) (by omega)
  have f1 := hf (p * 5) (by omega) (by omega)
  have f2 := hf (p * 5 + 2 + x % 3) (by omega) (by omega)
  rw [show 233 + p * 5 = 233 + 5 * p from by omega] at f1
  rw [show 233 + (p * 5 + 2 + x % 3) = 233 + 5 * p + 2 + x % 3 from by omega] at f2
  refine W_X7_brushed (Q := fun Z => Z = some (some (vI (brs R p x t a)), (SH T, c))) ?_
  rw [f1, f2]
  have h4 := clp_bd (v := a - t) (lo := -(R (233 + 5 * p))) (hi := R (233 + 5 * p)) (by omega)
  refine ⟨by omega, rfl⟩
theorem chd_bd {R : Int → Int} {q y b : Int} (hb : 0 ≤ b) : (0 : Int) ≤ foldI (fun o n => if R (348 + 4 * o) = q ∧ R (348 + 4 * o + 1) ≤ y ∧ y < R (348 + 4 * o + 2) then n + 1 else n) (0 : Int) b ∧ foldI (fun o n => if R (348 + 4 * o) = q ∧ R (348 + 4 * o + 1) ≤ y ∧ y < R (348 + 4 * o + 2) then n + 1 else n) (0 : Int) b ≤ b := by
  refine foldI_ind (f := fun o n => if R (348 + 4 * o) = q ∧ R (348 + 4 * o + 1) ≤ y ∧ y < R (348 + 4 * o + 2) then n + 1 else n) (x := 0) (b := b) (fun i n => 0 ≤ n ∧ n ≤ i) (by omega) ?_ hb
  intro i n h1 h2 h3
  try dsimp only
  split <;> omega
theorem c_childrenOf {T : List Shp} {c : Cm} {R : Int → Int} {q y : Int} (h : CS c R) (hR : RNG R) : ccal 75 [vR 2, vI q, vI y] (SH T, c) = some (some (vI (chd R q y)), (SH T, c)) := by
  obtain ⟨⟨e0, e2, e5, e7, e8, e11, e13, t0, t1, t2, t3, t4⟩, -, -, -, -, -, hq⟩ := h
  have h1 := hR.1
  refine W_X7_childrenOf (Q := fun Z => Z = some (some (vI (chd R q y)), (SH T, c))) ?_
  refine lpI (Q := fun Z => Z = some (some (vI (chd R q y)), (SH T, c))) (E := fun i (n : Int) => cev 75 2 5 [vR 2, vI q, vI y, vI n, vI i] [] (SH T, c)) (fun i n => (0 ≤ i ∧ i ≤ R 6) ∧ (0 ≤ n ∧ n ≤ i) ∧ n = foldI (fun o n => if R (348 + 4 * o) = q ∧ R (348 + 4 * o + 1) ≤ y ∧ y < R (348 + 4 * o + 2) then n + 1 else n) 0 i) (R 6) ?_ ?_ 0 0 ⟨by omega, by omega, rfl⟩
  · intro i n hi hI ih
    have g0 := hq (i * 4) (by omega) (by omega)
    have g1 := hq (i * 4 + 1) (by omega) (by omega)
    have g2 := hq (i * 4 + 2) (by omega) (by omega)
    rw [show 348 + i * 4 = 348 + 4 * i from by omega] at g0
    rw [show 348 + (i * 4 + 1) = 348 + 4 * i + 1 from by omega] at g1
    rw [show 348 + (i * 4 + 2) = 348 + 4 * i + 2 from by omega] at g2
    refine W_X7_childrenOf_5 (Q := fun Z => Z = some (some (vI (chd R q y)), (SH T, c))) ⟨fun _ => ?_, fun h => absurd hi (by rw [e13] at h; exact h)⟩
    rw [g0, g1, g2]
    refine ⟨by omega, fun h => ⟨by omega, fun h2 => ⟨by omega, ih _ ⟨by omega, by omega, ?_⟩⟩, fun h2 => ⟨by omega, ih _ ⟨by omega, by omega, ?_⟩⟩⟩, fun h => ⟨by omega, ih _ ⟨by omega, by omega, ?_⟩⟩⟩
    · rw [foldI_succ (by omega), if_pos ⟨h, h2⟩, ← hI.2.2]
    · rw [foldI_succ (by omega), if_neg (fun h3 => h2 h3.2)]; exact hI.2.2
    · rw [foldI_succ (by omega), if_neg (fun h3 => h h3.1)]; exact hI.2.2
  · intro i n hi hI
    refine W_X7_childrenOf_5 (Q := fun Z => Z = some (some (vI (chd R q y)), (SH T, c))) ⟨fun h => absurd h (by omega), fun _ => ?_⟩
    have : i = R 6 := by omega
    subst this
    rw [hI.2.2]
    rfl
theorem c_scarOn {T : List Shp} {c : Cm} {R : Int → Int} {x y : Int} (h : CS c R) (hR : RNG R) : ccal 29 [vR 15, vI x, vI y] (SH T, c) = some (some (vI (scp R x y).2), (SH T, c)) := by
  obtain ⟨⟨e0, e2, e5, e7, e8, e11, e13, t0, t1, t2, t3, t4⟩, -, hm, -⟩ := h
  have h1 := hR.1
  refine W_X4_scarOn (Q := fun Z => Z = some (some (vI (scp R x y).2), (SH T, c))) ?_
  refine lpI (Q := fun Z => Z = some (some (vI (scp R x y).2), (SH T, c))) (E := fun i (s : Int × Int) => cev 29 1 8 [vR 15, vI x, vI y, vI s.1, vI s.2, vI (3 * i), vU] [] (SH T, c)) (fun i s => (0 ≤ i ∧ i ≤ R 3) ∧ s = foldI (fun k p => if R (258 + 3 * k) = x ∧ R (258 + 3 * k + 1) ≤ y ∧ p.1 ≤ R (258 + 3 * k + 1) then (R (258 + 3 * k + 1), R (258 + 3 * k + 2)) else p) (-1, -1) i) (R 3) ?_ ?_ 0 (-1, -1) ⟨by omega, rfl⟩
  · intro i s hi hI ih
    have g0 := hm (3 * i) (by omega) (by omega)
    have g1 := hm (3 * i + 1) (by omega) (by omega)
    have g2 := hm (3 * i + 2) (by omega) (by omega)
    rw [show 258 + (3 * i + 1) = 258 + 3 * i + 1 from by omega] at g1
    rw [show 258 + (3 * i + 2) = 258 + 3 * i + 2 from by omega] at g2
    refine W_X4_scarOn_8 (Q := fun Z => Z = some (some (vI (scp R x y).2), (SH T, c))) ?_
    rw [g0, g1, g2, e2]
    rw [show 3 * i + 3 = 3 * (i + 1) from by omega]
    refine ⟨by omega, fun _ => ⟨by omega, fun h => ⟨fun h2 => ⟨by omega, ih s ⟨by omega, ?_⟩⟩, fun h2 => ⟨fun h3 => ⟨by omega, ih s ⟨by omega, ?_⟩⟩, fun h3 => ⟨by omega, ih (R (258 + 3 * i + 1), R (258 + 3 * i + 2)) ⟨by omega, ?_⟩⟩⟩⟩, fun h => ⟨by omega, ih s ⟨by omega, ?_⟩⟩⟩, fun h => absurd h (by omega)⟩
    · rw [foldI_succ (by omega), ← hI.2, if_neg (by omega)]
    · rw [foldI_succ (by omega), ← hI.2, if_neg (by omega)]
    · rw [foldI_succ (by omega), ← hI.2, if_pos (by omega)]
    · rw [foldI_succ (by omega), ← hI.2, if_neg (by omega)]
  · intro i s hi hI
    refine W_X4_scarOn_8 (Q := fun Z => Z = some (some (vI (scp R x y).2), (SH T, c))) ?_
    rw [e2]
    refine ⟨by omega, fun h => absurd h (by omega), fun _ => ?_⟩
    have : i = R 3 := by omega
    subst this
    rw [hI.2]
    rfl
theorem c_rests {T : List Shp} {c : Cm} {R : Int → Int} {p y : Int} (h : CS c R) (hR : RNG R) (hy : 0 ≤ y ∧ y ≤ 200) : ccal 70 [vR 2, vI p, vI y] (SH T, c) = some (some (vI (b01 (rst R p y = true))), (SH T, c)) := by
  obtain ⟨⟨e0, e2, e5, e7, e8, e11, e13, t0, t1, t2, t3, t4⟩, -, -, hb, -⟩ := h
  have h1 := hR.1
  refine W_X7_rests (Q := fun Z => Z = some (some (vI (b01 (rst R p y = true))), (SH T, c))) ?_
  refine lpI (Q := fun Z => Z = some (some (vI (b01 (rst R p y = true))), (SH T, c))) (E := fun i (_ : Unit) => cev 70 1 2 [vR 2, vI p, vI y, vI i, vU] [] (SH T, c)) (fun i _ => (1 ≤ i ∧ i ≤ R 11 + 1) ∧ ∀ k, 1 ≤ k → k < i → ¬ (1 ≤ y - k ∧ y - k ≤ R 4 ∧ R (216 + (y - k)) = p)) (R 11 + 1) ?_ ?_ 1 () ⟨by omega, fun k _ _ => by omega⟩
  · intro i _ hi hI ih
    refine W_X7_rests_2 (Q := fun Z => Z = some (some (vI (b01 (rst R p y = true))), (SH T, c))) ⟨fun h => absurd h (by omega), fun _ => ⟨by omega, fun h => ⟨by omega, ih () ⟨by omega, fun k a b => ?_⟩⟩, fun h => ⟨fun h2 => ⟨by omega, ih () ⟨by omega, fun k a b => ?_⟩⟩, fun h2 => ⟨by omega, fun h3 => ?_, fun h3 => ⟨by omega, ih () ⟨by omega, fun k a b => ?_⟩⟩⟩⟩⟩⟩
    · by_cases e : k = i
      · subst e; omega
      · exact hI.2 k a (by omega)
    · by_cases e : k = i
      · subst e; omega
      · exact hI.2 k a (by omega)
    · rw [hb _ (by omega) (by omega)] at h3
      rw [b01_t ((rst_iff (by omega)).mpr ⟨i, by omega, by omega, by omega, by omega, h3⟩)]
    · by_cases e : k = i
      · subst e
        rw [hb _ (by omega) (by omega)] at h3
        intro q
        exact h3 q.2.2
      · exact hI.2 k a (by omega)
  · intro i _ hi hI
    refine W_X7_rests_2 (Q := fun Z => Z = some (some (vI (b01 (rst R p y = true))), (SH T, c))) ⟨fun _ => ?_, fun h => absurd h (by omega)⟩
    rw [b01_f]
    intro q
    obtain ⟨k, a, b, q⟩ := (rst_iff (by omega)).mp q
    exact hI.2 k a (by omega) q
/-- the words of a question: cell 17, places 0 .. 9, tell what W tells of 1 .. 10 -/
def WD (c : Cm) (W : Int → Int) : Prop := ∀ i, 0 ≤ i → i < 10 → c 17 i = W (i + 1)
theorem c_ask {T : List Shp} {c : Cm} {R : Int → Int} {y : Int} (h : CS c R) (hR : RNG R) (hy : 0 ≤ y ∧ y ≤ 200) : QV T (fun c' => Off [17] [] c c' ∧ WD c' (wB R y)) (ccal 30 [vR 15, vI y] (SH T, c)) := by
  have h1 := hR.1
  refine W_X4_ask (Q := QV T _) ?_
  refine lpI (E := fun i (s : Cm) => cev 30 2 2 [vR 15, vI y, vI i] [] (SH T, s)) (fun i s => (0 ≤ i ∧ i ≤ 10) ∧ Off [17] [] c s ∧ ∀ k, 0 ≤ k → k < i → s 17 k = -1) 10 ?_ ?_ 0 c ⟨by omega, Off.rfl, fun k _ _ => by omega⟩
  · intro i s hi hI ih
    refine W_X4_ask_2 ⟨fun _ => ⟨by omega, ih _ ⟨by omega, hI.2.1.wr rfl, fun k a b => ?_⟩⟩, fun h => absurd hi h⟩
    rw [up_at]
    by_cases e : k = i
    · rw [if_pos e]
    · rw [if_neg e]; exact hI.2.2 k a (by omega)
  · intro i s hi hI
    have hs : CS s R := h.off hI.2.1 rfl
    refine W_X4_ask_2 ⟨fun h => absurd h (by omega), fun _ => ?_⟩
    refine QI.of_eq (c_ageIn hs hR hy.1 hy.2) ?_
    refine QV.ret ⟨((hI.2.1.wr rfl).wr rfl).wr rfl, ?_⟩
    intro k a b
    have t2 := hs.1.2.2.2.2.2.2.2.2.2.1
    unfold wB
    rw [up_at, up_at, up_at, t2]
    by_cases e5 : k = 5
    · rw [if_pos e5, if_neg (by omega), if_neg (by omega), if_pos (by omega)]
    · rw [if_neg e5]
      by_cases e2 : k = 2
      · rw [if_pos e2, if_neg (by omega), if_pos (by omega)]
      · rw [if_neg e2]
        by_cases e1 : k = 1
        · rw [if_pos e1, if_pos (by omega)]
        · rw [if_neg e1, if_neg (by omega), if_neg (by omega), if_neg (by omega)]
          exact hI.2.2 k a (by omega)
theorem c_askPainter {T : List Shp} {c : Cm} {R : Int → Int} {p y : Int} (h : CS c R) (hR : RNG R) (hp : 0 ≤ p ∧ p < R 0) (hy : 0 ≤ y ∧ y ≤ 200) : QV T (fun c' => Off [17] [] c c' ∧ WD c' (wP R p y)) (ccal 31 [vR 15, vI p, vI y] (SH T, c)) := by
  have h1 := hR.1
  refine W_X4_askPainter (Q := QV T _) ?_
  refine (c_ask h hR hy).mono fun c1 h2 => ?_
  have hs : CS c1 R := h.off h2.1 rfl
  have f := hs.2.1 (p * 5 + 1) (by omega) (by omega)
  rw [show 233 + (p * 5 + 1) = 233 + 5 * p + 1 from by omega] at f
  refine ⟨by omega, QV.ret ⟨(h2.1.wr rfl).wr rfl, ?_⟩⟩
  intro k a b
  rw [up_at, up_at, f]
  unfold wP
  by_cases e4 : k = 4
  · rw [if_pos e4, if_neg (by omega), if_pos (by omega)]
  · rw [if_neg e4]
    by_cases e3 : k = 3
    · rw [if_pos e3, if_pos (by omega)]
    · rw [if_neg e3, if_neg (by omega), if_neg (by omega)]
      exact h2.2 k a b
theorem c_askClaimant {T : List Shp} {c : Cm} {R : Int → Int} {q y : Int} (h : CS c R) (hR : RNG R) (hq : 0 ≤ q ∧ q < R 6) (hy : 0 ≤ y ∧ y ≤ 200) : QV T (fun c' => Off [17] [] c c' ∧ WD c' (wQ R q y)) (ccal 32 [vR 15, vI q, vI y] (SH T, c)) := by
  have h1 := hR.1
  have hb := hR.2.2.2.2.2.2.2 q hq.1 hq.2
  refine W_X4_askClaimant (Q := QV T _) ?_
  refine (c_ask h hR hy).mono fun c1 h2 => ?_
  have hs : CS c1 R := h.off h2.1 rfl
  have f1 := hs.2.2.2.2.2.2 (q * 4 + 1) (by omega) (by omega)
  have f3 := hs.2.2.2.2.2.2 (q * 4 + 3) (by omega) (by omega)
  have e11 := hs.1.2.2.2.2.2.1
  rw [show 348 + (q * 4 + 1) = 348 + 4 * q + 1 from by omega] at f1
  rw [show 348 + (q * 4 + 3) = 348 + 4 * q + 3 from by omega] at f3
  rw [f1, f3, e11]
  have key : ∀ (c2 : Cm) (v : Int), Off [17] [] c c2 → v = (if 0 ≤ R (348 + 4 * q + 3) ∧ R (348 + 4 * q + 3) < R 5 then ner R (R (348 + 4 * q + 3)) else -1) → (∀ k, 0 ≤ k → k < 8 → c2 17 k = wQ R q y (k + 1)) → QV T (fun c' => Off [17] [] c c' ∧ WD c' (wQ R q y)) (cev 32 3 101 [vR 15, vI q, vI y, vU, vU] [vI v, vI 8, vR 18] (SH T, c2)) := by
    intro c2 v h3 h4 h5
    refine W_X4_askClaimant_101 (Q := QV T _) ⟨by omega, ?_⟩
    refine QI.of_eq (c_childrenOf (h.off (h3.wr rfl) rfl) hR) (QV.ret ⟨(h3.wr rfl).wr rfl, ?_⟩)
    intro k a b
    rw [up_at, up_at]
    by_cases e9 : k = 9
    · rw [if_pos e9]; subst e9; rfl
    · rw [if_neg e9]
      by_cases e8 : k = 8
      · rw [if_pos e8, h4]; subst e8; rfl
      · rw [if_neg e8]; exact h5 k a (by omega)
  have w8 : ∀ k, 0 ≤ k → k < 8 → (up (up (up c1 17 6 q) 17 7 (R (348 + 4 * q + 1))) 17 1 (y - R (348 + 4 * q + 1))) 17 k = wQ R q y (k + 1) := by
    intro k a b
    rw [up_at, up_at, up_at]
    unfold wQ
    by_cases e1 : k = 1
    · rw [if_pos e1, if_pos (by omega)]
    · rw [if_neg e1, if_neg (show ¬ k + 1 = 2 by omega)]
      by_cases e7 : k = 7
      · rw [if_pos e7, if_neg (show ¬ k + 1 = 7 by omega), if_pos (show k + 1 = 8 by omega)]
      · rw [if_neg e7]
        by_cases e6 : k = 6
        · rw [if_pos e6, if_pos (show k + 1 = 7 by omega)]
        · rw [if_neg e6, if_neg (show ¬ k + 1 = 7 by omega), if_neg (show ¬ k + 1 = 8 by omega), if_neg (show ¬ k + 1 = 9 by omega), if_neg (show ¬ k + 1 = 10 by omega)]
          exact h2.2 k a (by omega)
  refine ⟨by omega, fun h3 => ?_, fun h3 => ?_⟩
  · refine QI.of_eq (c_nearOf (h.off (((h2.1.wr rfl).wr rfl).wr rfl) rfl) hR ⟨h3.1, by omega⟩) ?_
    exact key _ _ (((h2.1.wr rfl).wr rfl).wr rfl) (by rw [if_pos h3]) w8
  · exact key _ _ (((h2.1.wr rfl).wr rfl).wr rfl) (by rw [if_neg h3]) w8
/-! the law in force, as the class has it: F are its clauses -/
/-- a whole piece at place t of the steps, the stop behind it -/
def XP (NW : Int) (S : Int → Int) (n t : Int) (d : Den) : Prop := ∃ q l, CP NW S t q l d ∧ 0 ≤ t ∧ q < n ∧ S q = 12 ∧ l ≤ 50
def ZC (w : Int → Int) (a : Int) (S : Int → Int) (n : Int) (z : Clz) : Prop := w a = z.1 ∧ (match z.2.1 with | none => w (a + 2) = -1 | some d => XP 10 S n (w (a + 2)) d ∧ TDn d) ∧ (match z.2.2 with | none => w (a + 3) = -1 ∧ z.1 = 4 | some d => XP 10 S n (w (a + 3)) d ∧ z.1 ≠ 4)
def CTX (T : List Shp) (c : Cm) (r : Int) (F : List Clz) : Prop := ∃ (u w v : Nat) (n2 : Int) (f3 : List Int) (nw : Int) (fw : List Int) (nv : Int) (fv : List Int), drf (SH T) r = some (u, (20, n2, f3)) ∧ drf (SH T) (f3.getD 0 0) = some (w, (0, nw, fw)) ∧ drf (SH T) (f3.getD 1 0) = some (v, (0, nv, fv)) ∧ (109 ≤ u ∧ 109 ≤ w ∧ 109 ≤ v) ∧ c u 2 = (F.length : Int) ∧ (F.length ≤ 12 ∧ 6 * (F.length : Int) ≤ nw) ∧ (c u 3 ≤ 450 ∧ c u 3 ≤ nv) ∧ ∀ (i : Nat) (z : Clz), F[i]? = some z → ZC (c w) (6 * (i : Int)) (c v) (c u 3) z
theorem CTX.cg {T : List Shp} {c c' : Cm} {r : Int} {F : List Clz} (h : CTX T c r F) (hc : ∀ q, 109 ≤ q → c' q = c q) : CTX T c' r F := by
  obtain ⟨u, w, v, n2, f3, nw, fw, nv, fv, e1, e2, e3, hb, h1, h2, h3, h4⟩ := h
  refine ⟨u, w, v, n2, f3, nw, fw, nv, fv, e1, e2, e3, hb, ?_⟩
  rw [hc u hb.1, hc w hb.2.1, hc v hb.2.2]
  exact ⟨h1, h2, h3, h4⟩
def CL (T : List Shp) (c : Cm) (F : List Clz) : Prop := (c 1 7 = -1 ∧ F = []) ∨ (0 ≤ c 1 7 ∧ c 1 7 < c 1 5 ∧ CTX T c (c 5 (c 1 7)) F)
theorem CL.of {T : List Shp} {c c' : Cm} {F : List Clz} (h : CL T c F) (h5 : c' 1 5 = c 1 5) (h7 : c' 1 7 = c 1 7) (hx : c' 5 = c 5) (hc : ∀ q, 109 ≤ q → c' q = c q) : CL T c' F := by
  unfold CL
  rw [h5, h7, hx]
  rcases h with h | ⟨a, b, h⟩
  · exact .inl h
  · exact .inr ⟨a, b, h.cg hc⟩
theorem CL.off {L : List Nat} {G : List Int} {T : List Shp} {c c' : Cm} {F : List Clz} (h : CL T c F) (o : Off L G c c') (hl : (L.all fun q => Nat.ble 2 q && (!Nat.beq q 5) && Nat.ble q 108) = true) : CL T c' F := by
  have key : ∀ q : Nat, q < 2 ∨ q = 5 ∨ 109 ≤ q → c' q = c q := by
    intro q h1
    refine o.cell ?_
    have a : L.contains q = false := by
      cases e : L.contains q with
      | false => rfl
      | true =>
        have := (List.all_eq_true.mp hl) q (List.contains_iff_mem.mp e)
        have h2 := (Bool.and_eq_true _ _).mp this
        have h3 := (Bool.and_eq_true _ _).mp h2.1
        have h4 := Nat.le_of_ble_eq_true h2.2
        have h5 := Nat.le_of_ble_eq_true h3.1
        have h6 : q ≠ 5 := by
          intro e2
          rw [e2] at h3
          exact absurd h3.2 (by decide)
        omega
    have d : Nat.beq q 77 = false := by
      cases e2 : Nat.beq q 77 with
      | false => rfl
      | true => exact absurd (Nat.eq_of_beq_eq_true e2) (by omega)
    rw [a, d]
    rfl
  exact h.of (congrFun (key 1 (by omega)) _) (congrFun (key 1 (by omega)) _) (key 5 (by omega)) fun q hq => key q (by omega)
/-- words of a question lie between these bounds -/
def WR (W : Int → Int) : Prop := ∀ i, 1 ≤ i → i ≤ 10 → -100000 ≤ W i ∧ W i ≤ 100000
theorem WR.n {W : Int → Int} (h : WR W) : WRn 10 W := fun i a b => by
  have := h i a b
  omega
theorem tl_take {F : List Clz} {k : Int} {W : Int → Int} {i : Nat} {z : Clz} (h : F[i]? = some z) : tl (F.take (i + 1)) k W = if z.1 = k then (match clt W z with | none => tl (F.take i) k W | some v => some v) else tl (F.take i) k W := by
  unfold tl
  rw [List.take_succ, h]
  show List.foldl _ none (F.take i ++ [z]) = _
  rw [List.foldl_append]
  rfl
theorem c_piece {T : List Shp} {c : Cm} {x : Int} {u v : Nat} {W : Int → Int} {t : Int} {d : Den} (hx : TXA T x u v) (hl : ∀ n5 n2 f3 f6, drf (SH T) x = some (u, (20, n2, f3)) → drf (SH T) (f3.getD 1 0) = some (v, (0, n5, f6)) → c u 3 ≤ n5) (hn : c u 3 ≤ 450) (hW : WD c W) (hr : WRn 10 W) (h : XP 10 (c v) (c u 3) t d) : QI T (fun r c' => (d W = none → r = 0) ∧ (∀ y, d W = some y → r = 1 ∧ c' 15 2 = y) ∧ Off [15, 16] [] c c') (ccal 20 [vR 16, vR x, vI t, vR 18] (SH T, c)) := by
  obtain ⟨q, l, h1, h2, h3, h4, h5⟩ := h
  have lt := h1.lt
  exact c_worksa hx (by omega) h3 hn (need := l) (by omega) (PCA_of hx hl hn hr h1 h2 (by omega)) ⟨rfl, rfl, hW⟩ (by omega) hl
theorem c_tells {T : List Shp} {c : Cm} {R : Int → Int} {F : List Clz} {W : Int → Int} {k : Int} (h : CS c R) (hR : RNG R) (hL : CL T c F) (hW : WD c W) (hr : WR W) (hk : 0 ≤ k ∧ k < 5) : QI T (fun r c' => Off [14, 15, 16] [] c c' ∧ (match tl F k W with | none => r = 0 | some v => r = 1 ∧ (k ≠ 4 → c' 14 3 = v))) (ccal 33 [vR 15, vI k] (SH T, c)) := by
  have h1 := hR.1
  have e5 := h.1.2.2.1
  have e7 := h.1.2.2.2.1
  refine W_X4_tells (Q := QI T _) ?_
  rcases hL with ⟨hm, hF⟩ | ⟨ha, hb, hc⟩
  · refine ⟨fun z => absurd z (by omega), fun _ => W_X4_tells_39 (p1 := 0) (n2 := 0) (f3 := []) ⟨fun _ => QI.ret ⟨Off.rfl, ?_⟩, fun z => absurd rfl z⟩⟩
    rw [hF]
    rfl
  · refine ⟨fun _ => ⟨by omega, ?_⟩, fun z => absurd ⟨ha, hb⟩ z⟩
    obtain ⟨u, w, v, n2, f3, nw, fw, nv, fv, d1, d2, d3, ub, h2, h3, h4, h5⟩ := hc
    generalize c 5 (c 1 7) = y at d1 ⊢
    have hx : TXA T y u v := ⟨n2, f3, nv, fv, d1, d3, ub.1, ub.2.2⟩
    have hl : ∀ n5 n2 f3 f6, drf (SH T) y = some (u, (20, n2, f3)) → drf (SH T) (f3.getD 1 0) = some (v, (0, n5, f6)) → c u 3 ≤ n5 := by
      intro n5 m2 g3 f6 a b
      rw [d1] at a
      injection a with a
      injection a with _ a
      injection a with _ a
      injection a with _ a
      rw [← a, d3] at b
      injection b with b
      injection b with _ b
      injection b with _ b
      injection b with b _
      omega
    have y0 : ¬ y = 0 := by
      intro e
      rw [e] at d1
      exact absurd d1 (by simp [drf])
    refine W_X4_tells_39 (p1 := u) (n2 := n2) (f3 := f3) ⟨fun z => absurd z y0, fun _ => ⟨⟨d1, by omega, by omega⟩, ?_⟩⟩
    rw [h2, show ((F.length : Int) - 1) * 6 = 6 * ((F.length : Int) - 1) from by omega]
    refine lpD (Q := QI T _) (E := fun i (s : Cm) => cev 33 3 56 [vR 15, vI k, vR y, vI (6 * i), vU, vU, vU] [] (SH T, s)) (fun i s => (-1 ≤ i ∧ i < F.length) ∧ Off [15, 16] [] c s ∧ tl F k W = tl (F.take (i + 1).toNat) k W) 0 ?_ ?_ _ c ⟨by omega, Off.rfl, ?_⟩
    · intro i s hi hI ih
      obtain ⟨hib, o, ht⟩ := hI
      have key : ∀ q : Nat, q = 17 ∨ 109 ≤ q → s q = c q := fun q hq => by
        funext j
        refine o q j ?_ (fun e => by omega)
        cases e : ([15, 16] : List Nat).contains q with
        | false => rfl
        | true =>
          have := List.contains_iff_mem.mp e
          simp at this
          omega
      have ku := key u (.inr ub.1)
      have kw := key w (.inr ub.2.1)
      have kv := key v (.inr ub.2.2)
      obtain ⟨j, rfl⟩ := Int.eq_ofNat_of_zero_le hi
      obtain ⟨z, hz⟩ : ∃ z, F[j]? = some z := ⟨F[j]'(by omega), List.getElem?_eq_getElem (by omega)⟩
      have z5 := h5 j z hz
      have tt := tl_take (k := k) (W := W) hz
      rw [show ((j : Int) + 1).toNat = j + 1 from by omega] at ht
      rw [tt] at ht
      have nxt : ∀ s' : Cm, Off [15, 16] [] c s' → tl F k W = tl (F.take j) k W → QI T (fun r c' => Off [14, 15, 16] [] c c' ∧ (match tl F k W with | none => r = 0 | some v => r = 1 ∧ (k ≠ 4 → c' 14 3 = v))) (cev 33 3 56 [vR 15, vI k, vR y, vI (6 * (j : Int) + (-6)), vU, vU, vU] [] (SH T, s')) := by
        intro s' o' e'
        rw [show 6 * (j : Int) + (-6) = 6 * ((j : Int) - 1) from by omega]
        exact ih s' ⟨by omega, o', by rw [show ((j : Int) - 1 + 1).toNat = j from by omega]; exact e'⟩
      refine W_X4_tells_56 (p1 := u) (n2 := n2) (f3 := f3) (p4 := w) (n5 := nw) (f6 := fw) ⟨fun z => absurd z (by omega), fun _ => ⟨⟨d1, by omega, d2, by omega⟩, ?_⟩⟩
      rw [kw, Int.add_zero, z5.1]
      refine ⟨fun ek => ⟨⟨d1, by omega, d2, by omega, by omega, by omega⟩, ?_⟩, fun ek => ⟨by omega, nxt s o ?_⟩⟩
      · rw [if_pos ek] at ht
        -- the sum
        have last : ∀ s' : Cm, Off [15, 16] [] c s' → (clt W z = match z.2.2 with | none => some 0 | some s => s W) → QI T (fun r c' => Off [14, 15, 16] [] c c' ∧ (match tl F k W with | none => r = 0 | some v => r = 1 ∧ (k ≠ 4 → c' 14 3 = v))) (cev 33 3 131 [vR 15, vI k, vR y, vI (6 * (j : Int)), vU, vI (c w (6 * (j : Int) + 3)), vU] [vI 1] (SH T, s')) := by
          intro s' o' ec
          rw [ec] at ht
          refine W_X4_tells_131 ⟨fun z => absurd z (by decide), fun _ => ?_⟩
          have zs := z5.2.2
          cases e2 : z.2.2 with
          | none =>
            rw [e2] at zs ht
            refine ⟨fun _ => QI.ret ⟨(o'.mono rfl rfl).wr rfl, ?_⟩, fun z => absurd zs.1 z⟩
            rw [ht]
            exact ⟨rfl, fun z => absurd (ek.symm.trans zs.2) z⟩
          | some d =>
            rw [e2] at zs ht
            replace ht : tl F k W = match d W with | none => tl (F.take j) k W | some v => some v := ht
            refine ⟨fun z => ?_, fun _ => ?_⟩
            · obtain ⟨q, l, p1, p2, _⟩ := zs.1
              rw [z] at p2
              exact absurd p2 (by decide)
            · have ku' : s' u = c u := by
                funext jj
                refine o' u jj ?_ (fun e => by omega)
                cases e : ([15, 16] : List Nat).contains u with
                | false => rfl
                | true =>
                  have := List.contains_iff_mem.mp e
                  simp at this
                  omega
              have kv' : s' v = c v := by
                funext jj
                refine o' v jj ?_ (fun e => by omega)
                cases e : ([15, 16] : List Nat).contains v with
                | false => rfl
                | true =>
                  have := List.contains_iff_mem.mp e
                  simp at this
                  omega
              have hW' : WD s' W := fun i a b => by rw [o'.cell (q := 17) rfl]; exact hW i a b
              refine (c_piece (d := d) (W := W) hx (by rw [ku']; exact hl) (by rw [ku']; omega) hW' hr.n (by rw [ku', kv']; exact zs.1)).mono fun r c' hp => ?_
              obtain ⟨p0, p1, p2⟩ := hp
              cases ed : d W with
              | none => exact ⟨fun _ => ⟨by omega, nxt c' (o'.trans p2) (by rw [ht, ed])⟩, fun z => absurd (p0 ed) z⟩
              | some y2 =>
                have p1' := p1 y2 ed
                refine ⟨fun z => by omega, fun _ => QI.ret ⟨((o'.trans p2).mono rfl rfl).wr rfl, ?_⟩⟩
                rw [ht, ed]
                exact ⟨rfl, fun _ => by rw [up_same]; exact p1'.2⟩
        have zt := z5.2.1
        cases e1 : z.2.1 with
        | none =>
          rw [e1] at zt
          refine ⟨fun _ => last s o ?_, fun z => absurd zt z⟩
          unfold clt
          rw [e1]
          rfl
        | some d =>
          rw [e1] at zt
          refine ⟨fun z => ?_, fun _ => ?_⟩
          · obtain ⟨q, l, p1, p2, _⟩ := zt.1
            rw [z] at p2
            exact absurd p2 (by decide)
          · have hW' : WD s W := fun i a b => by rw [o.cell (q := 17) rfl]; exact hW i a b
            have ec : clt W z = if (d W == some 1) = true then (match z.2.2 with | none => some 0 | some s => s W) else none := by
              unfold clt
              rw [e1]
              rfl
            have no : ¬ d W = some 1 → tl F k W = tl (F.take j) k W := by
              intro hne
              rw [ht, ec, if_neg (by simpa using hne)]
            refine (c_piece (d := d) (W := W) hx (by rw [ku]; exact hl) (by rw [ku]; omega) hW' hr.n (by rw [ku, kv]; exact zt.1)).mono fun r c' hp => ?_
            obtain ⟨p0, p1, p2⟩ := hp
            have stop : ∀ s' : Cm, Off [15, 16] [] c s' → ¬ d W = some 1 → QI T (fun r c' => Off [14, 15, 16] [] c c' ∧ (match tl F k W with | none => r = 0 | some v => r = 1 ∧ (k ≠ 4 → c' 14 3 = v))) (cev 33 3 131 [vR 15, vI k, vR y, vI (6 * (j : Int)), vU, vI (c w (6 * (j : Int) + 3)), vU] [vI 0] (SH T, s')) := by
              intro s' o' hne
              exact W_X4_tells_131 ⟨fun _ => ⟨by omega, nxt s' o' (no hne)⟩, fun z => absurd rfl z⟩
            cases ed : d W with
            | none => exact ⟨fun _ => stop c' (o.trans p2) (by rw [ed]; simp), fun z => absurd (p0 ed) z⟩
            | some y2 =>
              have p1' := p1 y2 ed
              refine ⟨fun z => by omega, fun _ => ⟨fun e8 => last c' (o.trans p2) ?_, fun e8 => stop c' (o.trans p2) ?_⟩⟩
              · rw [ec, ed, if_pos (by rw [← p1'.2, e8]; rfl)]
              · rw [ed]
                intro e9
                have := Option.some.inj e9
                omega
      · rw [ht, if_neg ek]
    · intro i s hi hI
      refine W_X4_tells_56 (p1 := u) (n2 := n2) (f3 := f3) (p4 := w) (n5 := nw) (f6 := fw) ⟨fun _ => QI.ret ⟨hI.2.1.mono rfl rfl, ?_⟩, fun z => absurd (show 6 * i < 0 by omega) z⟩
      have : i = -1 := by omega
      rw [hI.2.2, this]
      rfl
    · rw [show ((F.length : Int) - 1 + 1).toNat = F.length from by omega, List.take_length]
theorem WR_B {R : Int → Int} {y : Int} (hR : RNG R) (hy : 0 ≤ y ∧ y ≤ 200) : ∀ i, -100000 ≤ wB R y i ∧ wB R y i ≤ 100000 := by
  intro i
  have h1 := hR.1
  have h2 := ag_bd (R := R) (y := y)
  unfold wB
  repeat' split
  all_goals omega
theorem WR_C {R : Int → Int} {x y : Int} (hR : RNG R) (hy : 0 ≤ y ∧ y ≤ 200) (hx : 0 ≤ x ∧ x < 12) : WR (wC R x y) := by
  intro i _ _
  have := WR_B hR hy i
  unfold wC
  split
  · omega
  · exact this
theorem WR_P {R : Int → Int} {p y : Int} (hR : RNG R) (hy : 0 ≤ y ∧ y ≤ 200) (hp : 0 ≤ p ∧ p < R 0) : WR (wP R p y) := by
  intro i _ _
  have := WR_B hR hy i
  have h1 := hR.1
  have h2 := hR.2.2.2.1 p hp.1 hp.2
  unfold wP
  repeat' split
  all_goals first | omega | exact this
theorem WR_Q {R : Int → Int} {q y : Int} (hR : RNG R) (hy : 0 ≤ y ∧ y ≤ 200) (hq : 0 ≤ q ∧ q < R 6) : WR (wQ R q y) := by
  intro i _ _
  have := WR_B hR hy i
  have h1 := hR.1
  have h2 := hR.2.2.2.2.2.2.2 q hq.1 hq.2
  have h3 := apr_bd (R := R) (a := 276 + 12 * R (348 + 4 * q + 3)) (b := 12 + 12 * R 4)
  have h4 := chd_bd (R := R) (q := q) (y := y) (b := R 6) (by omega)
  unfold wQ ner chd
  repeat' split
  all_goals first | omega | exact this
theorem WD_C {c : Cm} {R : Int → Int} {x y : Int} (h : WD c (wB R y)) : WD (up c 17 0 x) (wC R x y) := by
  intro k a b
  rw [up_at]
  unfold wC
  by_cases e : k = 0
  · rw [if_pos e, if_pos (by omega)]
  · rw [if_neg e, if_neg (by omega)]; exact h k a b
theorem c_looksOf {T : List Shp} {c : Cm} {R : Int → Int} {F : List Clz} {x y : Int} (h : CS c R) (hR : RNG R) (hL : CL T c F) (hx : 0 ≤ x ∧ x < 12) (hy : 0 ≤ y ∧ y ≤ 200) : QI T (fun r c' => r = lk F R x y ∧ Off [14, 15, 16, 17] [] c c') (ccal 23 [vR 15, vI x, vI y] (SH T, c)) := by
  refine W_X4_looksOf (Q := QI T _) ?_
  refine QI.of_eq (c_scarOn h hR) ⟨fun h1 => ?_, fun h1 => QI.ret ⟨?_, Off.rfl⟩⟩
  · refine (c_ask h hR hy).mono fun c3 h3 => ?_
    have o3 : Off [14, 15, 16, 17] [] c (up c3 17 0 x) := (h3.1.mono rfl rfl).wr rfl
    refine (c_tells (h.off o3 rfl) hR (hL.off o3 rfl) (WD_C h3.2) (WR_C hR hy hx) (by omega)).mono fun r4 c5 h5 => ?_
    have o5 : Off [14, 15, 16, 17] [] c c5 := o3.trans (h5.1.mono rfl rfl)
    have hag := ag_bd (R := R) (y := y)
    refine ⟨fun h6 => ?_, fun h6 => QI.ret ⟨?_, o5⟩⟩
    · refine QI.of_eq (c_ageIn (h.off o5 rfl) hR hy.1 hy.2) ⟨by omega, QI.ret ⟨?_, o5⟩⟩
      unfold lk
      rw [if_pos h1]
      have h7 := h5.2
      cases e : tl F 0 (wC R x y) with
      | none =>
        show _ = clp (clp (ag R y / 10) 0 9) 0 9
        have := clp_bd (v := ag R y / 10) (lo := 0) (hi := 9) (by omega)
        rw [clp_id (v := clp (ag R y / 10) 0 9) (by omega) (by omega)]
        unfold clp
        rw [if_neg (show ¬ ag R y / 10 < 0 by omega)]
        by_cases h8 : 9 < ag R y / 10
        · rw [if_pos h8, if_neg (show ¬ ag R y / 10 < 9 by omega)]
        · rw [if_neg h8]
          by_cases h9 : ag R y / 10 < 9
          · rw [if_pos h9]
          · rw [if_neg h9]; omega
      | some v => rw [e] at h7; exact absurd h7.1 (by omega)
    · unfold lk
      rw [if_pos h1]
      have h7 := h5.2
      cases e : tl F 0 (wC R x y) with
      | none => rw [e] at h7; exact absurd h7 h6
      | some v => rw [e] at h7; rw [h7.2 (by decide)]; rfl
  · unfold lk
    rw [if_neg h1]
theorem c_letsOf {T : List Shp} {c : Cm} {R : Int → Int} {F : List Clz} {x y : Int} (h : CS c R) (hR : RNG R) (hL : CL T c F) (hx : 0 ≤ x ∧ x < 12) (hy : 0 ≤ y ∧ y ≤ 200) : QI T (fun r c' => r = lt F R x y ∧ Off [14, 15, 16, 17] [] c c') (ccal 24 [vR 15, vI x, vI y] (SH T, c)) := by
  refine W_X4_letsOf (Q := QI T _) ?_
  refine (c_ask h hR hy).mono fun c3 h3 => ?_
  have o3 : Off [14, 15, 16, 17] [] c (up c3 17 0 x) := (h3.1.mono rfl rfl).wr rfl
  refine (c_tells (h.off o3 rfl) hR (hL.off o3 rfl) (WD_C h3.2) (WR_C hR hy hx) (by omega)).mono fun r4 c5 h5 => ?_
  have o5 : Off [14, 15, 16, 17] [] c c5 := o3.trans (h5.1.mono rfl rfl)
  have h7 := h5.2
  unfold lt
  refine ⟨fun h6 => QI.ret ⟨?_, o5⟩, fun h6 => QI.ret ⟨?_, o5⟩⟩
  · cases e : tl F 1 (wC R x y) with
    | none => rfl
    | some v => rw [e] at h7; exact absurd h7.1 (by omega)
  · cases e : tl F 1 (wC R x y) with
    | none => rw [e] at h7; exact absurd h7 h6
    | some v => rw [e] at h7; rw [h7.2 (by decide)]; rfl
theorem c_asksOf {T : List Shp} {c : Cm} {R : Int → Int} {F : List Clz} {p y : Int} (h : CS c R) (hR : RNG R) (hL : CL T c F) (hp : 0 ≤ p ∧ p < R 0) (hy : 0 ≤ y ∧ y ≤ 200) : QI T (fun r c' => r = ask F R p y ∧ Off [14, 15, 16, 17] [] c c') (ccal 25 [vR 15, vI p, vI y] (SH T, c)) := by
  refine W_X4_asksOf (Q := QI T _) ?_
  refine (c_askPainter h hR hp hy).mono fun c3 h3 => ?_
  have o3 : Off [14, 15, 16, 17] [] c c3 := h3.1.mono rfl rfl
  have h1 := hR.1
  have h2 := hR.2.2.2.1 p hp.1 hp.2
  refine (c_tells (h.off o3 rfl) hR (hL.off o3 rfl) h3.2 (WR_P hR hy hp) (by omega)).mono fun r4 c5 h5 => ?_
  have o5 : Off [14, 15, 16, 17] [] c c5 := o3.trans (h5.1.mono rfl rfl)
  have h7 := h5.2
  unfold ask
  refine ⟨fun h6 => ⟨by omega, QI.ret ⟨?_, o5⟩⟩, fun h6 => QI.ret ⟨?_, o5⟩⟩
  · cases e : tl F 2 (wP R p y) with
    | none =>
      have f := (h.off o5 rfl).2.1 (p * 5 + 1) (by omega) (by omega)
      rw [f, show 233 + (p * 5 + 1) = 233 + 5 * p + 1 from by omega]
      exact (clp_id (by omega) (by omega)).symm
    | some v => rw [e] at h7; exact absurd h7.1 (by omega)
  · cases e : tl F 2 (wP R p y) with
    | none => rw [e] at h7; exact absurd h7 h6
    | some v => rw [e] at h7; rw [h7.2 (by decide)]; rfl
theorem tl_some {F : List Clz} {k : Int} {W : Int → Int} {r : Int} {c' : Cm} (h : match tl F k W with | none => r = 0 | some v => r = 1 ∧ (k ≠ 4 → c' 14 3 = v)) : r = b01 ((tl F k W).isSome = true) := by
  cases e : tl F k W with
  | none => rw [e] at h; rw [b01_f (by decide)]; exact h
  | some v => rw [e] at h; rw [b01_t (show (some v).isSome = true from rfl)]; exact h.1
theorem c_barsPainter {T : List Shp} {c : Cm} {R : Int → Int} {F : List Clz} {p y : Int} (h : CS c R) (hR : RNG R) (hL : CL T c F) (hp : 0 ≤ p ∧ p < R 0) (hy : 0 ≤ y ∧ y ≤ 200) : QI T (fun r c' => r = b01 (brp F R p y = true) ∧ Off [14, 15, 16, 17] [] c c') (ccal 26 [vR 15, vI p, vI y] (SH T, c)) := by
  refine W_X4_barsPainter (Q := QI T _) ?_
  refine (c_askPainter h hR hp hy).mono fun c3 h3 => ?_
  have o3 : Off [14, 15, 16, 17] [] c c3 := h3.1.mono rfl rfl
  refine (c_tells (h.off o3 rfl) hR (hL.off o3 rfl) h3.2 (WR_P hR hy hp) (by omega)).mono fun r4 c5 h5 => ?_
  have o5 : Off [14, 15, 16, 17] [] c c5 := o3.trans (h5.1.mono rfl rfl)
  have e : r4 = b01 (brp F R p y = true) := tl_some h5.2
  rw [e]
  exact ⟨b01_or, QI.ret ⟨rfl, o5⟩⟩
theorem c_ranksOf {T : List Shp} {c : Cm} {R : Int → Int} {F : List Clz} {q y : Int} (h : CS c R) (hR : RNG R) (hL : CL T c F) (hq : 0 ≤ q ∧ q < R 6) (hy : 0 ≤ y ∧ y ≤ 200) : QI T (fun r c' => r = rnk F R q y ∧ Off [14, 15, 16, 17] [] c c') (ccal 27 [vR 15, vI q, vI y] (SH T, c)) := by
  refine W_X4_ranksOf (Q := QI T _) ?_
  refine (c_askClaimant h hR hq hy).mono fun c3 h3 => ?_
  have o3 : Off [14, 15, 16, 17] [] c c3 := h3.1.mono rfl rfl
  have h1 := hR.1
  refine (c_tells (h.off o3 rfl) hR (hL.off o3 rfl) h3.2 (WR_Q hR hy hq) (by omega)).mono fun r4 c5 h5 => ?_
  have o5 : Off [14, 15, 16, 17] [] c c5 := o3.trans (h5.1.mono rfl rfl)
  have h7 := h5.2
  unfold rnk
  refine ⟨fun h6 => QI.ret ⟨?_, o5⟩, fun h6 => QI.ret ⟨?_, o5⟩⟩
  · cases e : tl F 3 (wQ R q y) with
    | none => exact (clp_id (by omega) (by omega)).symm
    | some v => rw [e] at h7; exact absurd h7.1 (by omega)
  · cases e : tl F 3 (wQ R q y) with
    | none => rw [e] at h7; exact absurd h7 h6
    | some v => rw [e] at h7; rw [h7.2 (by decide)]; rfl
theorem c_barsClaimant {T : List Shp} {c : Cm} {R : Int → Int} {F : List Clz} {q y : Int} (h : CS c R) (hR : RNG R) (hL : CL T c F) (hq : 0 ≤ q ∧ q < R 6) (hy : 0 ≤ y ∧ y ≤ 200) : QI T (fun r c' => r = b01 (brq F R q y = true) ∧ Off [14, 15, 16, 17] [] c c') (ccal 28 [vR 15, vI q, vI y] (SH T, c)) := by
  refine W_X4_barsClaimant (Q := QI T _) ?_
  refine (c_askClaimant h hR hq hy).mono fun c3 h3 => ?_
  have o3 : Off [14, 15, 16, 17] [] c c3 := h3.1.mono rfl rfl
  refine (c_tells (h.off o3 rfl) hR (hL.off o3 rfl) h3.2 (WR_Q hR hy hq) (by omega)).mono fun r4 c5 h5 => ?_
  have o5 : Off [14, 15, 16, 17] [] c c5 := o3.trans (h5.1.mono rfl rfl)
  have e : r4 = b01 (brq F R q y = true) := tl_some h5.2
  rw [e]
  exact ⟨b01_or, QI.ret ⟨rfl, o5⟩⟩
