/-! ORDERS: what an order's words mean; the clerk learns them, tries the test and works the sums -/
def wO (F : List Clz) (R : Int → Int) (n : Int) : Int → Int := fun i => if i = 1 then R 4 else if i = 2 then unl F R (R 4) else if i = 3 then mny F R (R 4) else if i = 4 then R 5 else if i = 5 then ag R (R 4) else if i = 6 then n else R (12 + 12 * R 4 + (i - 7))
theorem wO_7 {F : List Clz} {R : Int → Int} {n x : Int} (hx : 0 ≤ x) : wO F R n (7 + x) = R (12 + 12 * R 4 + x) := by
  unfold wO
  rw [if_neg (by omega), if_neg (by omega), if_neg (by omega), if_neg (by omega), if_neg (by omega), if_neg (by omega), show 7 + x - 7 = x from by omega]
theorem unl_bd {F : List Clz} {R : Int → Int} {l : Int} (hR : RNG R) (hl : 0 ≤ l ∧ l ≤ 16) : 0 ≤ unl F R l ∧ unl F R l ≤ 108 := by
  have b : 0 ≤ unl F R l ∧ unl F R l ≤ 9 * 12 := ulk_bd (P := fun x => R (12 + 12 * l + x)) (L := fun x => lk F R x l) (b := 12) (by omega) (fun x _ _ => hR.tone hl (by omega)) (fun x _ _ => lk_bd hR)
  omega
theorem mny_bd2 {F : List Clz} {R : Int → Int} {l : Int} (hR : RNG R) (hl : 0 ≤ l ∧ l ≤ 16) : -1000000 ≤ mny F R l ∧ mny F R l ≤ 1000000 := by
  have b := mny_bd (F := F) (R := R) (v := R 10 * l) (b := l) hl.1
  have i := inc_bd hR (l := l) (by omega)
  unfold mny
  omega
theorem wO_bd {F : List Clz} {R : Int → Int} {n : Int} (hR : RNG R) (hn : 0 ≤ n ∧ n ≤ 1000) : WRn 18 (wO F R n) := by
  intro i h1 h2
  have r := hR.1
  have u := unl_bd (F := F) hR (l := R 4) (by omega)
  have m := mny_bd2 (F := F) hR (l := R 4) (by omega)
  have a := ag_bd (R := R) (y := R 4)
  unfold wO
  split
  · omega
  split
  · omega
  split
  · omega
  split
  · omega
  split
  · omega
  split
  · omega
  have t := hR.tone (l := R 4) (x := i - 7) (by omega) (by omega)
  omega
/-- the words as the clerk keeps them: those two that ask for work only if a text asks for them -/
def LN (c : Cm) (b : Int) (W : Int → Int) : Prop := (∀ i, 0 ≤ i → i < 18 → -1000000000 ≤ c 71 i ∧ c 71 i ≤ 1000000000) ∧ ∀ w, 0 ≤ w → w < 18 → (w = 1 → bt b 1 = true) → (w = 2 → bt b 2 = true) → c 71 w = W (w + 1)
theorem LN.off {c c' : Cm} {b : Int} {W : Int → Int} {L : List Nat} {G : List Int} (h : LN c b W) (o : Off L G c c') (e : c' 71 = c 71) : LN c' b W := by
  unfold LN
  rw [e]
  exact h
def B9 (c : Cm) : Prop := ∀ i, 0 ≤ i → i < 18 → -1000000000 ≤ c 71 i ∧ c 71 i ≤ 1000000000
theorem B9.wr {c : Cm} {k v : Int} (h : B9 c) (hv : -1000000000 ≤ v ∧ v ≤ 1000000000) : B9 (up c 71 k v) := by
  intro i a b
  rw [up_at]
  split
  · exact hv
  · exact h i a b
theorem c_learn116 {T : List Shp} {c : Cm} {R : Int → Int} {F : List Clz} {b n : Int} (h : CWd T c R F) (hb : 0 ≤ b ∧ b < 262144) (hB : B9 c) (hw : ∀ w, 0 ≤ w → w < 18 → w ≠ 2 → (w = 1 → bt b 1 = true) → c 71 w = wO F R n (w + 1)) : QV T (fun c' => LN c' b (wO F R n) ∧ Off [14, 15, 16, 17, 71] [] c c') (cev 7 6 116 [vR 60, vI b, vU] [] (SH T, c)) := by
  have hR := h.2.1
  have r := hR.1
  have e8 : c 1 8 = R 4 := h.1.1.2.2.2.2.1
  have bi := bt_iff (s := b) (k := 2) hb.1 (by omega) (by omega) (by omega)
  refine W_X1_learnWords_116 (Q := QV T _) ⟨fun z => ?_, fun z => QV.ret ⟨⟨hB, fun w a1 a2 a3 a4 => ?_⟩, Off.rfl⟩⟩
  · rw [e8]
    refine (c_moneyBehind h (l := R 4) (by omega)).mono fun v c2 h2 => ?_
    have m := mny_bd2 (F := F) hR (l := R 4) (by omega)
    have e71 : c2 71 = c 71 := h2.2.cell rfl
    have hB2 : B9 c2 := by unfold B9; rw [e71]; exact hB
    rw [h2.1]
    refine QV.ret ⟨⟨hB2.wr (by omega), fun w a1 a2 a3 a4 => ?_⟩, (h2.2.mono rfl rfl).wr rfl⟩
    rw [up_at]
    by_cases e : w = 2
    · rw [if_pos e, e]; rfl
    · rw [if_neg e, e71]; exact hw w a1 a2 e a3
  · by_cases e : w = 2
    · exact absurd (bi.2 (a4 e)) z
    · exact hw w a1 a2 e a3
theorem c_learn58 {T : List Shp} {c : Cm} {R : Int → Int} {F : List Clz} {b n : Int} (h : CWd T c R F) (hb : 0 ≤ b ∧ b < 262144) (hB : B9 c) (hw : ∀ w, 0 ≤ w → w < 6 → w ≠ 1 → w ≠ 2 → c 71 w = wO F R n (w + 1)) : QV T (fun c' => LN c' b (wO F R n) ∧ Off [14, 15, 16, 17, 71] [] c c') (cev 7 6 58 [vR 60, vI b, vI 0] [] (SH T, c)) := by
  have hR := h.2.1
  have r := hR.1
  refine lpI (E := fun i (s : Cm) => cev 7 6 58 [vR 60, vI b, vI i] [] (SH T, s)) (fun i s => (0 ≤ i ∧ i ≤ 12) ∧ Off [14, 15, 16, 17, 71] [] c s ∧ B9 s ∧ ∀ w, 0 ≤ w → w < 6 + i → w ≠ 1 → w ≠ 2 → s 71 w = wO F R n (w + 1)) 12 ?_ ?_ 0 c ⟨by omega, Off.rfl, hB, fun w a1 a2 a3 a4 => hw w a1 (by omega) a3 a4⟩
  · intro i s hi hI ih
    have hs := h.off hI.2.1 rfl
    have e8 : s 1 8 = R 4 := hs.1.1.2.2.2.2.1
    have t := hR.tone (l := R 4) (x := i) (by omega) (by omega)
    have et := hs.tone (l := R 4) (x := i) (by omega) (by omega)
    refine W_X1_learnWords_58 ⟨fun _ => ?_, fun z => absurd hi z⟩
    rw [e8, et]
    refine ⟨by omega, ih _ ⟨by omega, hI.2.1.wr rfl, hI.2.2.1.wr (by omega), fun w a1 a2 a3 a4 => ?_⟩⟩
    rw [up_at]
    by_cases e : w = 6 + i
    · rw [if_pos e, show w + 1 = 7 + i from by omega, wO_7 hI.1.1]
    · rw [if_neg e]; exact hI.2.2.2 w a1 (by omega) a3 a4
  · intro i s hi hI
    have hs := h.off hI.2.1 rfl
    have e8 : s 1 8 = R 4 := hs.1.1.2.2.2.2.1
    have bi := bt_iff (s := b) (k := 1) hb.1 (by omega) (by omega) (by omega)
    refine W_X1_learnWords_58 ⟨fun z => absurd z (by omega), fun _ => ⟨fun z => ?_, fun z => ?_⟩⟩
    · rw [e8]
      refine (c_unlikeOf hs (l := R 4) (by omega)).mono fun v c2 h2 => ?_
      have m := unl_bd (F := F) hR (l := R 4) (by omega)
      have e71 : c2 71 = s 71 := h2.2.cell rfl
      have hB2 : B9 c2 := by unfold B9; rw [e71]; exact hI.2.2.1
      have o2 : Off [14, 15, 16, 17, 71] [] c (up c2 71 1 (unl F R (R 4))) := (hI.2.1.trans (h2.2.mono rfl rfl)).wr rfl
      rw [h2.1]
      refine (c_learn116 (h.off o2 rfl) hb (hB2.wr (by omega)) fun w a1 a2 a3 a4 => ?_).mono fun c3 h3 => ⟨h3.1, o2.trans h3.2⟩
      rw [up_at]
      by_cases e : w = 1
      · rw [if_pos e, e]; rfl
      · rw [if_neg e, e71]; exact hI.2.2.2 w a1 (by omega) e a3
    · refine (c_learn116 hs hb hI.2.2.1 fun w a1 a2 a3 a4 => ?_).mono fun c3 h3 => ⟨h3.1, hI.2.1.trans h3.2⟩
      by_cases e : w = 1
      · exact absurd (bi.2 (a4 e)) z
      · exact hI.2.2.2 w a1 (by omega) e a3
theorem c_learnWs {T : List Shp} {c : Cm} {R : Int → Int} {F : List Clz} {b n : Int} (h : CWd T c R F) (hb : 0 ≤ b ∧ b < 262144) (hB : B9 c) (h9 : c 59 9 = n) (hn : 0 ≤ n ∧ n ≤ 1000) : QV T (fun c' => LN c' b (wO F R n) ∧ Off [14, 15, 16, 17, 71] [] c c') (ccal 7 [vR 60, vI b] (SH T, c)) := by
  have hR := h.2.1
  have r := hR.1
  have e8 : c 1 8 = R 4 := h.1.1.2.2.2.2.1
  have e11 : c 1 11 = R 5 := h.1.1.2.2.2.2.2.1
  have a := ag_bd (R := R) (y := R 4)
  have o1 : Off [14, 15, 16, 17, 71] [] c (up (up c 71 0 (R 4)) 71 3 (R 5)) := (Off.rfl.wr rfl).wr rfl
  have h1 := h.off o1 rfl
  refine W_X1_learnWords (Q := QV T _) ?_
  rw [e8, e11]
  refine QI.of_eq (c_ageIn h1.1 hR (by omega) (by omega)) ?_
  have e9 : up (up c 71 0 (R 4)) 71 3 (R 5) 59 9 = n := by rw [up_cell (by decide), up_cell (by decide)]; exact h9
  rw [e9]
  have o2 : Off [14, 15, 16, 17, 71] [] c (up (up (up (up c 71 0 (R 4)) 71 3 (R 5)) 71 4 (ag R (R 4))) 71 5 n) := (o1.wr rfl).wr rfl
  refine (c_learn58 (n := n) (h.off o2 rfl) hb ((((hB.wr (by omega)).wr (by omega)).wr (by omega)).wr (by omega)) fun w a1 a2 a3 a4 => ?_).mono fun c3 h3 => ⟨h3.1, o2.trans h3.2⟩
  have ew : w = 0 ∨ w = 3 ∨ w = 4 ∨ w = 5 := by omega
  rcases ew with e | e | e | e
  · subst e; rw [up_ne (by decide), up_ne (by decide), up_ne (by decide), up_same]; rfl
  · subst e; rw [up_ne (by decide), up_ne (by decide), up_same]; rfl
  · subst e; rw [up_ne (by decide), up_same]; rfl
  · subst e; rw [up_same]; rfl
