/-! CALLS on the tape: row -/
def roM (L : Int) : Int := if L < 12 then L else 12
def roP (B : Int → Int) : Int → Bool := fun k => decide (B k < 10)
def roR (B : Int → Int) (m : Int) (R : Int → Int) : Int → Int := fun j => if j = 4 then 0 else if (12 ≤ j ∧ j < 12 + m) ∧ B (j - 12) < 10 then B (j - 12) else R j
theorem roM_bd {L : Int} (h : 0 ≤ L) : 0 ≤ roM L ∧ roM L ≤ 12 ∧ roM L ≤ L ∧ (roM L = L ∨ roM L = 12) := by
  unfold roM
  split <;> omega
theorem roR_o {B : Int → Int} {m : Int} {R : Int → Int} {j : Int} (h : j ≠ 4) (hm : m ≤ 12) (h2 : j < 12 ∨ 24 ≤ j) : roR B m R j = R j := by
  unfold roR
  rw [if_neg h, if_neg (by omega)]
theorem roR_rng {B : Int → Int} {m : Int} {R : Int → Int} (h : RNG R) (hm : 0 ≤ m ∧ m ≤ 12) (hB : ∀ j, 0 ≤ j → j < 12 → 0 ≤ B j) : RNG (roR B m R) := by
  have r := h.1
  have e4 : roR B m R 4 = 0 := if_pos rfl
  refine h.keep (fun j a b d _ => roR_o d hm.2 (by omega)) (by omega) (by rw [roR_o (by decide) hm.2 (by omega)]; omega) (fun i a b => ?_) (fun l a b => ?_) (fun i a b => ?_) (fun j a b => roR_o (by omega) hm.2 (by omega))
  · have g := h.2.1 i a b
    unfold roR
    rw [if_neg (by omega)]
    split
    · rename_i z
      have := hB (12 + i - 12) (by omega) (by omega)
      omega
    · exact g
  · rw [e4] at b; omega
  · rw [roR_o (by omega) hm.2 (by omega)]; exact h.2.2.2.2.2.2.1 i a b
section CAL
variable {T : List Shp} {c : Cm} {n : Nat}
theorem c_row18 {Q : Res → Prop} (hL : 0 ≤ c 0 4 ∧ c 0 4 ≤ 400) (k : ∀ s : Cm, (∀ q, q ≠ 7 → s q = c q) → (∀ j, s 7 j = if (0 ≤ j ∧ j < roM (c 0 4)) ∧ c 10 j < 10 then c 10 j else c 7 j) → Q (some (some (vI (cnt (roP (c 10)) (roM (c 0 4)))), (SH T, (up (up (up (up s 0 15 (c 0 4 - cnt (roP (c 10)) (roM (c 0 4)))) 1 8 0) 0 4 0) 0 17 0))))) : Q (cev 123 3 18 [vR 1, vI 0, vI 0] [] (SH T, c)) := by
  have m := roM_bd hL.1
  have ex : ∀ (s : Cm) (t : Int), (∀ q, q ≠ 7 → s q = c q) → (∀ j, s 7 j = if (0 ≤ j ∧ j < roM (c 0 4)) ∧ c 10 j < 10 then c 10 j else c 7 j) → t = cnt (roP (c 10)) (roM (c 0 4)) → Q (cev 123 3 67 [vR 1, vI t, vU] [] (SH T, s)) := fun s t h1 h2 h3 => by
    have b := cnt_bd (p := roP (c 10)) m.1
    have e0 : s 0 = c 0 := h1 0 (by decide)
    refine W_X11_row_67 ⟨by rw [e0]; omega, ?_⟩
    rw [e0, h3]
    exact k s h1 h2
  refine lpI (E := fun i (s : Int × Cm) => cev 123 3 18 [vR 1, vI s.1, vI i] [] (SH T, s.2)) (fun i s => (0 ≤ i ∧ i ≤ roM (c 0 4)) ∧ s.1 = cnt (roP (c 10)) i ∧ (∀ q, q ≠ 7 → s.2 q = c q) ∧ ∀ j, s.2 7 j = if (0 ≤ j ∧ j < i) ∧ c 10 j < 10 then c 10 j else c 7 j) (roM (c 0 4)) ?_ ?_ 0 (0, c) ⟨by omega, rfl, fun _ _ => rfl, fun j => by rw [if_neg (by omega)]⟩
  · intro i s hi hI ih
    obtain ⟨i0, st, s1, s7⟩ := hI
    have e0 : s.2 0 = c 0 := s1 0 (by decide)
    have e10 : s.2 10 = c 10 := s1 10 (by decide)
    have b := cnt_bd (p := roP (c 10)) i0.1
    refine W_X11_row_18 ⟨fun _ => ⟨fun _ => ⟨by omega, fun z => ⟨by omega, ih (s.1 + 1, up s.2 7 i (s.2 10 i)) ⟨by omega, ?_, fun q hq => (up_cell hq).trans (s1 q hq), fun j => ?_⟩⟩, fun z => ⟨by omega, ih (s.1, s.2) ⟨by omega, ?_, s1, fun j => ?_⟩⟩⟩, fun z => by omega⟩, fun z => by rw [e0] at z; omega⟩
    · rw [e10] at z
      rw [cnt_succ i0.1, if_pos (show roP (c 10) i = true from decide_eq_true z), ← st]
    · rw [e10] at z ⊢
      show up s.2 7 i (c 10 i) 7 j = _
      rw [up_at]
      by_cases e : j = i
      · subst e
        rw [if_pos rfl, if_pos ⟨by omega, z⟩]
      · rw [if_neg e, s7]
        by_cases w : (0 ≤ j ∧ j < i) ∧ c 10 j < 10
        · rw [if_pos w, if_pos ⟨by omega, w.2⟩]
        · rw [if_neg w, if_neg (fun q => w ⟨by omega, q.2⟩)]
    · rw [e10] at z
      rw [cnt_succ i0.1, if_neg (show ¬ roP (c 10) i = true from fun q => z (of_decide_eq_true q))]
      exact st
    · rw [e10] at z
      rw [s7]
      by_cases e : j = i
      · subst e
        rw [if_neg (fun q => by omega), if_neg (fun q => z q.2)]
      · by_cases w : (0 ≤ j ∧ j < i) ∧ c 10 j < 10
        · rw [if_pos w, if_pos ⟨by omega, w.2⟩]
        · rw [if_neg w, if_neg (fun q => w ⟨by omega, q.2⟩)]
  · intro i s hi hI
    obtain ⟨i0, st, s1, s7⟩ := hI
    have ei : i = roM (c 0 4) := by omega
    subst ei
    have e0 : s.2 0 = c 0 := s1 0 (by decide)
    refine W_X11_row_18 ⟨fun a => ⟨fun b => ?_, fun _ => ex s.2 s.1 s1 s7 st⟩, fun _ => ex s.2 s.1 s1 s7 st⟩
    rw [e0] at a
    omega
theorem r_row42 {Q : Res → Prop} {B : Int → Int} {L : Int} (hL : 0 ≤ L ∧ L ≤ 400) (hB : ∀ j, 0 ≤ j → j < 400 → c 83 j = B j ∧ 0 ≤ B j) (h7 : c 77 7 = 0) (k : ∀ s : Cm, (∀ q, q ≠ 77 → q ≠ 79 → s q = c q) → (∀ j, j ≠ 7 → s 77 j = c 77 j) → s 77 7 = L - cnt (roP B) (roM L) → (∀ j, s 79 j = if (12 ≤ j ∧ j < 12 + roM L) ∧ B (j - 12) < 10 then B (j - 12) else c 79 j) → Q (some (some (vI (cnt (roP B) (roM L))), (SH T, up s 77 1 0)))) : Q (cev 212 3 42 [vR 78, vI L, vI 0, vI 0] [] (SH T, c)) := by
  have m := roM_bd hL.1
  refine lpI (E := fun i (s : Int × Cm) => cev 212 3 42 [vR 78, vI L, vI s.1, vI i] [] (SH T, s.2)) (fun i s => (0 ≤ i ∧ i ≤ L) ∧ s.1 = cnt (roP B) (roM i) ∧ (∀ q, q ≠ 77 → q ≠ 79 → s.2 q = c q) ∧ (∀ j, j ≠ 7 → s.2 77 j = c 77 j) ∧ s.2 77 7 = i - cnt (roP B) (roM i) ∧ ∀ j, s.2 79 j = if (12 ≤ j ∧ j < 12 + roM i) ∧ B (j - 12) < 10 then B (j - 12) else c 79 j) L ?_ ?_ 0 (0, c) ⟨by omega, rfl, fun _ _ _ => rfl, fun _ _ => rfl, by show c 77 7 = _; rw [h7]; rfl, fun j => by rw [show roM 0 = 0 from rfl, if_neg (by omega)]⟩
  · intro i s hi hI ih
    obtain ⟨i0, st, s1, s77, sf, s79⟩ := hI
    have mi := roM_bd i0.1
    have bc := cnt_bd (p := roP B) mi.1
    have e83 : s.2 83 = c 83 := s1 83 (by decide) (by decide)
    have hb := hB i i0.1 (by omega)
    have v83 : s.2 83 i = B i := (congrFun e83 i).trans hb.1
    have big : 12 ≤ i → roM (i + 1) = roM i := fun a => by unfold roM; rw [if_neg (by omega), if_neg (by omega)]
    have small : i < 12 → roM i = i ∧ roM (i + 1) = i + 1 := fun a => by
      unfold roM
      rw [if_pos a]
      refine ⟨rfl, ?_⟩
      split <;> omega
    refine W_X12_row_42 ⟨fun _ => ⟨fun a => ⟨by omega, fun z => ⟨by omega, ih (s.1 + 1, up s.2 79 (12 + i) (s.2 83 i)) ⟨by omega, ?_, fun q h1 h2 => (up_cell h2).trans (s1 q h1 h2), fun j hj => by show up s.2 79 (12 + i) (s.2 83 i) 77 j = _; rw [up_cell (by decide)]; exact s77 j hj, ?_, fun j => ?_⟩⟩, fun z => ⟨by omega, ih (s.1, up s.2 77 7 (s.2 77 7 + 1)) ⟨by omega, ?_, fun q h1 h2 => (up_cell h1).trans (s1 q h1 h2), fun j hj => by show up s.2 77 7 (s.2 77 7 + 1) 77 j = _; rw [up_ne hj]; exact s77 j hj, ?_, fun j => ?_⟩⟩⟩, fun a => ⟨by omega, ih (s.1, up s.2 77 7 (s.2 77 7 + 1)) ⟨by omega, ?_, fun q h1 h2 => (up_cell h1).trans (s1 q h1 h2), fun j hj => by show up s.2 77 7 (s.2 77 7 + 1) 77 j = _; rw [up_ne hj]; exact s77 j hj, ?_, fun j => ?_⟩⟩⟩, fun z => absurd hi z⟩
    · rw [v83] at z
      rw [(small a).2, cnt_succ i0.1, if_pos (show roP B i = true from decide_eq_true z.2), st, (small a).1]
    · rw [v83] at z
      show up s.2 79 (12 + i) (s.2 83 i) 77 7 = _
      rw [up_cell (by decide), sf, (small a).2, cnt_succ i0.1, if_pos (show roP B i = true from decide_eq_true z.2), (small a).1]
      omega
    · rw [v83] at z ⊢
      show up s.2 79 (12 + i) (B i) 79 j = _
      rw [up_at, (small a).2]
      by_cases e : j = 12 + i
      · subst e
        rw [if_pos rfl, show 12 + i - 12 = i from by omega, if_pos ⟨by omega, z.2⟩]
      · rw [if_neg e, s79, (small a).1]
        by_cases w : (12 ≤ j ∧ j < 12 + i) ∧ B (j - 12) < 10
        · rw [if_pos w, if_pos ⟨by omega, w.2⟩]
        · rw [if_neg w, if_neg (fun q => w ⟨by omega, q.2⟩)]
    · rw [v83] at z
      rw [(small a).2, cnt_succ i0.1, if_neg (show ¬ roP B i = true from fun q => z ⟨hb.2, of_decide_eq_true q⟩), st, (small a).1]
    · rw [v83] at z
      show up s.2 77 7 (s.2 77 7 + 1) 77 7 = _
      rw [up_same, sf, (small a).2, cnt_succ i0.1, if_neg (show ¬ roP B i = true from fun q => z ⟨hb.2, of_decide_eq_true q⟩), (small a).1]
      omega
    · rw [v83] at z
      show up s.2 77 7 (s.2 77 7 + 1) 79 j = _
      rw [up_cell (by decide), s79, (small a).1, (small a).2]
      by_cases e : j = 12 + i
      · subst e
        rw [if_neg (fun q => by omega), show 12 + i - 12 = i from by omega, if_neg (fun q => z ⟨hb.2, q.2⟩)]
      · by_cases w : (12 ≤ j ∧ j < 12 + i) ∧ B (j - 12) < 10
        · rw [if_pos w, if_pos ⟨by omega, w.2⟩]
        · rw [if_neg w, if_neg (fun q => w ⟨by omega, q.2⟩)]
    · rw [big (by omega)]
      exact st
    · show up s.2 77 7 (s.2 77 7 + 1) 77 7 = _
      rw [up_same, sf, big (by omega)]
      omega
    · show up s.2 77 7 (s.2 77 7 + 1) 79 j = _
      rw [up_cell (by decide), s79, big (by omega)]
  · intro i s hi hI
    obtain ⟨i0, st, s1, s77, sf, s79⟩ := hI
    have ei : i = L := by omega
    subst ei
    have bc := cnt_bd (p := roP B) m.1
    refine W_X12_row_42 ⟨fun z => absurd z (by omega), fun _ => ⟨by omega, ?_⟩⟩
    rw [st]
    exact k s.2 s1 s77 sf s79
theorem j_row (h : REL T c n) (hn : n < 512) : JN T c n 123 212 [] := by
  have hs := h.cs
  have hR := h.rng
  have r := hR.1
  have hd : c 0 4 = c 77 9 ∧ (0 ≤ c 77 9 ∧ c 77 9 ≤ 400) := ⟨h.2.2.1.1, h.2.2.1.2.1.1⟩
  have tB := h.2.2.1.2.1.2
  have tE := h.2.2.1.2.2
  have rf := h.2.2.2.2.1
  refine W_X11_row (Q := QI T _) ⟨fun a => ?_, fun a => ?_⟩
  · have bd := h.bd hn
    have g6 := rf.2.1.2.2.2.2
    refine ⟨by omega, QI.ret ⟨(SC.rfl.wr (by decide)).wr (by decide), W_X12_row (Q := QI T _) ⟨fun _ => ⟨?_, QI.ret ⟨rfl, ?_, ?_⟩⟩, fun z => ?_⟩⟩⟩
    · show -2147483648 ≤ c 78 6 + 1 ∧ c 78 6 + 1 < 2147483648
      omega
    · repeat' (first | exact SC.rfl | refine SC.wr ?_ ?_ | decide)
    · have h0 : REL T (up c 77 9 0) n := by
        have k := h.fr (c' := up c 77 9 0) (fun q _ hq => up_cell hq) (fun j hj => by
          by_cases e : j = 9
          · subst e; rw [up_same]; omega
          · exact up_ne e)
        exact k
      have k := h0.r6
      have e : up (up (up (up (up (up c 77 9 0) 0 17 (-6)) 76 4 (up c 77 9 0 76 4 + 1)) 77 0 0) 77 1 (-6)) 78 6 (up (up (up c 77 9 0) 0 17 (-6)) 76 4 (up c 77 9 0 76 4 + 1) 78 6 + 1) = up (up (up (up (up (up c 0 17 (-6)) 76 4 (c 76 4 + 1)) 77 0 0) 77 9 0) 77 1 (-6)) 78 6 (up (up c 0 17 (-6)) 76 4 (c 76 4 + 1) 78 6 + 1) := by
        funext q j
        have e1 : up (up (up c 77 9 0) 0 17 (-6)) 76 4 (up c 77 9 0 76 4 + 1) 78 6 = up (up c 0 17 (-6)) 76 4 (c 76 4 + 1) 78 6 := rfl
        have e2 : up c 77 9 0 76 4 = c 76 4 := rfl
        rw [e1, e2]
        by_cases q78 : q = 78
        · subst q78; rfl
        · rw [up_cell q78, up_cell q78]
          by_cases q77 : q = 77
          · subst q77
            show (if j = 1 then _ else if j = 0 then _ else if j = 9 then _ else _) = (if j = 1 then _ else if j = 9 then _ else if j = 0 then _ else _)
            by_cases j1 : j = 1
            · rw [if_pos j1, if_pos j1]
            · rw [if_neg j1, if_neg j1]
              by_cases j0 : j = 0
              · rw [if_pos j0, if_neg (by omega), if_pos j0]
              · rw [if_neg j0]
                by_cases j9 : j = 9
                · rw [if_pos j9, if_pos j9]
                · rw [if_neg j9, if_neg j9, if_neg j0]; rfl
          · rw [up_cell q77, up_cell q77, up_cell q77, up_cell q77, up_cell q77]
            by_cases q76 : q = 76
            · subst q76; rfl
            · rw [up_cell q76, up_cell q76]
              by_cases q0 : q = 0
              · subst q0; rfl
              · rw [up_cell q0, up_cell q0, up_cell q77]
      rw [e] at k
      exact k
    · replace z : ¬ c 77 9 = 0 := z
      omega
  · refine c_row18 (by omega) fun s f1 f7 => QI.ret ⟨?_, W_X12_row (Q := QI T _) ⟨fun z => ?_, fun _ => ?_⟩⟩
    · exact ((((show SC c s from ⟨f1 _ (by decide), f1 _ (by decide)⟩).wr (by decide)).wr (by decide)).wr (by decide)).wr (by decide)
    · replace z : s 77 9 = 0 := z
      rw [f1 77 (by decide)] at z
      omega
    · have m := roM_bd (L := c 0 4) (by omega)
      generalize hc1 : up (up (up (up s 0 15 (c 0 4 - cnt (roP (c 10)) (roM (c 0 4)))) 1 8 0) 0 4 0) 0 17 0 = c1
      have g1 : ∀ q, q ≠ 0 → q ≠ 1 → q ≠ 7 → c1 q = c q := fun q a b d => by rw [← hc1, up_cell a, up_cell a, up_cell b, up_cell a]; exact f1 q d
      have g0 : ∀ j, c1 0 j = if j = 17 then 0 else if j = 4 then 0 else if j = 15 then c 0 4 - cnt (roP (c 10)) (roM (c 0 4)) else c 0 j := fun j => by
        rw [← hc1]
        show (if j = 17 then _ else if j = 4 then _ else if j = 15 then _ else s 0 j) = _
        rw [f1 0 (by decide)]
      have g11 : ∀ j, c1 1 j = if j = 8 then 0 else c 1 j := fun j => by
        rw [← hc1]
        show (if j = 8 then _ else s 1 j) = _
        rw [f1 1 (by decide)]
      have g7 : ∀ j, c1 7 j = if (0 ≤ j ∧ j < roM (c 0 4)) ∧ c 10 j < 10 then c 10 j else c 7 j := fun j => by
        rw [← hc1]
        exact f7 j
      have e79 : c1 79 = c 79 := g1 79 (by decide) (by decide) (by decide)
      have e9 : c1 77 9 = c 77 9 := congrFun (g1 77 (by decide) (by decide) (by decide)) 9
      clear hc1 f1 f7
      rw [e9]
      refine r_row42 (B := c 10) hd.2 (fun j a b => ⟨?_, (tB j a b).1⟩) rfl fun s2 k1 k77 k7 k79 => QI.ret ⟨?_, ?_, ?_⟩
      · show c1 83 j = _
        rw [g1 83 (by decide) (by decide) (by decide)]
        exact tE j a b
      · rw [hd.1]
      · exact ((show SC c c1 from ⟨g1 _ (by decide) (by decide) (by decide), g1 _ (by decide) (by decide) (by decide)⟩).trans (show SC c1 s2 from ⟨k1 _ (by decide) (by decide), k1 _ (by decide) (by decide)⟩)).wr (by decide)
      · have a0 : ∀ q, q ≠ 0 → q ≠ 1 → q ≠ 7 → q ≠ 77 → q ≠ 79 → up s2 77 1 0 q = c q := fun q a b d x y => by
          rw [up_cell x, k1 q x y]
          show up (up (up (up c1 77 0 0) 77 9 0) 77 7 0) 79 4 0 q = c q
          rw [up_cell y, up_cell x, up_cell x, up_cell x]
          exact g1 q a b d
        have a00 : up s2 77 1 0 0 = c1 0 := by
          rw [up_cell (by decide), k1 0 (by decide) (by decide)]; rfl
        have a01 : up s2 77 1 0 1 = c1 1 := by
          rw [up_cell (by decide), k1 1 (by decide) (by decide)]; rfl
        have a07 : up s2 77 1 0 7 = c1 7 := by
          rw [up_cell (by decide), k1 7 (by decide) (by decide)]; rfl
        have a77 : ∀ j, up s2 77 1 0 77 j = if j = 1 then 0 else if j = 7 then c 0 4 - cnt (roP (c 10)) (roM (c 0 4)) else if j = 9 then 0 else if j = 0 then 0 else c 77 j := fun j => by
          rw [up_at]
          by_cases j1 : j = 1
          · rw [if_pos j1, if_pos j1]
          · rw [if_neg j1, if_neg j1]
            by_cases j7 : j = 7
            · subst j7
              rw [if_pos rfl, k7, hd.1]
            · rw [if_neg j7, k77 j j7]
              show (if j = 7 then _ else if j = 9 then _ else if j = 0 then _ else c1 77 j) = _
              rw [if_neg j7, g1 77 (by decide) (by decide) (by decide)]
        have a79 : up s2 77 1 0 79 = roR (c 10) (roM (c 0 4)) (c 79) := by
          funext j
          rw [up_cell (by decide), k79]
          have w : up (up (up (up c1 77 0 0) 77 9 0) 77 7 0) 79 4 0 79 j = if j = 4 then 0 else c 79 j := by
            rw [up_at]
            show (if j = 4 then _ else c1 79 j) = _
            rw [e79]
          rw [w, ← hd.1]
          unfold roR
          by_cases j4 : j = 4
          · rw [if_neg (by omega), if_pos j4, if_pos j4]
          · rw [if_neg j4, if_neg j4]
        generalize up s2 77 1 0 = c2 at a0 a00 a01 a07 a77 a79
        obtain ⟨h1, h2, h3, ⟨m1, m2, m3, m4, m5⟩, h5, h6, h7⟩ := h
        have big : ∀ q, 109 ≤ q → c2 q = c q := fun q a => a0 q (by omega) (by omega) (by omega) (by omega) (by omega)
        have cs2 : CS c2 (roR (c 10) (roM (c 0 4)) (c 79)) := by
          obtain ⟨⟨b0, b1, b2, b3, b4, b5, b6, b7, b8, b9, b10, b11⟩, d2, d3, d6, d7, d8, d9⟩ := hs
          have o : ∀ j, j ≠ 4 → (j < 12 ∨ 24 ≤ j) → roR (c 10) (roM (c 0 4)) (c 79) j = c 79 j := fun j x y => roR_o x m.2.1 y
          have s1 : ∀ j, j ≠ 8 → c2 1 j = c 1 j := fun j hj => by rw [a01, g11, if_neg hj]
          have sq : ∀ q, q ≠ 0 → q ≠ 1 → q ≠ 7 → q ≠ 77 → q ≠ 79 → ∀ j, c2 q j = c q j := fun q x1 x2 x3 x4 x5 j => congrFun (a0 q x1 x2 x3 x4 x5) j
          refine ⟨⟨?_, ?_, ?_, ?_, ?_, ?_, ?_, ?_, ?_, ?_, ?_, ?_⟩, fun j p q => ?_, fun j p q => ?_, fun j p q => ?_, fun j p q => ?_, fun j p q => ?_, fun j p q => ?_⟩
          · rw [o 0 (by decide) (by omega)]; exact (s1 0 (by decide)).trans b0
          · rw [o 3 (by decide) (by omega)]; exact (s1 2 (by decide)).trans b1
          · rw [o 1 (by decide) (by omega)]; exact (s1 5 (by decide)).trans b2
          · rw [o 2 (by decide) (by omega)]; exact (s1 7 (by decide)).trans b3
          · show c2 1 8 = 0
            rw [a01, g11]; rfl
          · rw [o 5 (by decide) (by omega)]; exact (s1 11 (by decide)).trans b5
          · rw [o 6 (by decide) (by omega)]; exact (s1 13 (by decide)).trans b6
          · rw [o 7 (by decide) (by omega)]; exact (sq 4 (by decide) (by decide) (by decide) (by decide) (by decide) 0).trans b7
          · rw [o 8 (by decide) (by omega)]; exact (sq 4 (by decide) (by decide) (by decide) (by decide) (by decide) 1).trans b8
          · rw [o 9 (by decide) (by omega)]; exact (sq 4 (by decide) (by decide) (by decide) (by decide) (by decide) 2).trans b9
          · rw [o 10 (by decide) (by omega)]; exact (sq 4 (by decide) (by decide) (by decide) (by decide) (by decide) 3).trans b10
          · rw [o 11 (by decide) (by omega)]; exact (sq 4 (by decide) (by decide) (by decide) (by decide) (by decide) 4).trans b11
          · rw [o _ (by omega) (by omega)]; exact (sq 2 (by decide) (by decide) (by decide) (by decide) (by decide) j).trans (d2 j p q)
          · rw [o 3 (by decide) (by omega)] at q
            rw [o _ (by omega) (by omega)]; exact (sq 3 (by decide) (by decide) (by decide) (by decide) (by decide) j).trans (d3 j p q)
          · rw [o _ (by omega) (by omega)]; exact (sq 6 (by decide) (by decide) (by decide) (by decide) (by decide) j).trans (d6 j p q)
          · rw [a07, g7]
            unfold roR
            rw [if_neg (show ¬ 12 + j = 4 by omega), show 12 + j - 12 = j from by omega]
            by_cases w : (0 ≤ j ∧ j < roM (c 0 4)) ∧ c 10 j < 10
            · rw [if_pos w, if_pos ⟨by omega, w.2⟩]
            · rw [if_neg w, if_neg (fun z => w ⟨by omega, z.2⟩)]; exact d7 j p q
          · rw [o _ (by omega) (by omega)]; exact (sq 8 (by decide) (by decide) (by decide) (by decide) (by decide) j).trans (d8 j p q)
          · rw [o _ (by omega) (by omega)]; exact (sq 9 (by decide) (by decide) (by decide) (by decide) (by decide) j).trans (d9 j p q)
        have sq : ∀ q, q ≠ 0 → q ≠ 1 → q ≠ 7 → q ≠ 77 → q ≠ 79 → c2 q = c q := a0
        have z0 : ∀ j, j ≠ 17 → j ≠ 4 → j ≠ 15 → c2 0 j = c 0 j := fun j x y z => by rw [a00, g0, if_neg x, if_neg y, if_neg z]
        have z7 : ∀ j, j ≠ 1 → j ≠ 7 → j ≠ 9 → j ≠ 0 → c2 77 j = c 77 j := fun j x y z w => by rw [a77, if_neg x, if_neg y, if_neg z, if_neg w]
        have e15 : c2 0 15 = c 0 4 - cnt (roP (c 10)) (roM (c 0 4)) := by rw [a00, g0]; rfl
        have e4 : c2 0 4 = 0 := by rw [a00, g0]; rfl
        have f7' : c2 77 7 = c 0 4 - cnt (roP (c 10)) (roM (c 0 4)) := by rw [a77]; rfl
        have f9' : c2 77 9 = 0 := by rw [a77]; rfl
        refine ⟨?_, h2.cells (z0 2 (by decide) (by decide) (by decide)) (fun q a b => sq q (by omega) (by omega) (by omega) (by omega) (by omega)) (sq 80 (by decide) (by decide) (by decide) (by decide) (by decide)) (sq 82 (by decide) (by decide) (by decide) (by decide) (by decide)) big, ⟨by rw [e4, f9'], ⟨by omega, ?_⟩, ?_⟩, ⟨⟨?_, by rw [e15, f7'], ?_⟩, ?_, m3.cong (sq 89 (by decide) (by decide) (by decide) (by decide) (by decide)) (sq 90 (by decide) (by decide) (by decide) (by decide) (by decide)) (sq 91 (by decide) (by decide) (by decide) (by decide) (by decide)), ?_, ?_⟩, rf.ok (by rw [a00, g0]; rfl) (by rw [a77]; rfl) (sq 76 (by decide) (by decide) (by decide) (by decide) (by decide)) (sq 78 (by decide) (by decide) (by decide) (by decide) (by decide)), h6.cells (sq 73 (by decide) (by decide) (by decide) (by decide) (by decide)) (sq 74 (by decide) (by decide) (by decide) (by decide) (by decide)) (sq 75 (by decide) (by decide) (by decide) (by decide) (by decide)) (sq 108 (by decide) (by decide) (by decide) (by decide) (by decide)) (z7 59 (by decide) (by decide) (by decide) (by decide)) (z7 60 (by decide) (by decide) (by decide) (by decide)), h7.up1⟩
        · rw [a79]
          refine ⟨cs2, roR_rng hR ⟨m.1, m.2.1⟩ fun j x y => (tB j x (by omega)).1, ?_, ?_⟩
          · show LWS T (c2 5) c2 _
            rw [sq 5 (by decide) (by decide) (by decide) (by decide) (by decide)]
            exact (h1.2.2.1.cg big).row (roR_o (by decide) m.2.1 (by omega)) fun j x => roR_o (by omega) m.2.1 (by omega)
          · show ∀ x, 0 ≤ x → x < 6 → trf (SH T) (c2 5 x) 20 = true
            rw [sq 5 (by decide) (by decide) (by decide) (by decide) (by decide)]
            exact h1.2.2.2
        · rw [sq 10 (by decide) (by decide) (by decide) (by decide) (by decide)]
          exact tB
        · rw [sq 10 (by decide) (by decide) (by decide) (by decide) (by decide), sq 83 (by decide) (by decide) (by decide) (by decide) (by decide)]
          exact tE
        · rw [z0 14 (by decide) (by decide) (by decide), z7 14 (by decide) (by decide) (by decide) (by decide)]
          exact m1.1
        · rw [z0 16 (by decide) (by decide) (by decide), z7 56 (by decide) (by decide) (by decide) (by decide)]
          exact m1.2.2
        · unfold AX at m2 ⊢
          rw [z7 16 (by decide) (by decide) (by decide) (by decide), z7 44 (by decide) (by decide) (by decide) (by decide), z7 45 (by decide) (by decide) (by decide) (by decide)]
          exact m2
        · unfold B9
          rw [sq 71 (by decide) (by decide) (by decide) (by decide) (by decide)]
          exact m4
        · intro j x
          rw [a79, roR_o (by omega) m.2.1 (by omega)]
          exact m5 j x
end CAL
