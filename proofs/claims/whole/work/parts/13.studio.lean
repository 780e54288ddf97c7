/-! THE CLASS'S STUDIO -/
/-- what the class's plain questions rest on -/
def CWd (T : List Shp) (c : Cm) (R : Int → Int) (F : List Clz) : Prop := CS c R ∧ RNG R ∧ CL T c F
theorem CWd.off {L : List Nat} {G : List Int} {T : List Shp} {c c' : Cm} {R : Int → Int} {F : List Clz} (h : CWd T c R F) (o : Off L G c c') (hl : (L.all fun q => (Nat.ble 14 q && Nat.ble q 108)) = true) : CWd T c' R F := by
  refine ⟨h.1.off o ?_, h.2.1, h.2.2.off o ?_⟩
  · refine List.all_eq_true.mpr fun q hq => ?_
    have := (Bool.and_eq_true _ _).mp ((List.all_eq_true.mp hl) q hq)
    rw [Nat.ble_eq_true_of_le (Nat.le_trans (by decide) (Nat.le_of_ble_eq_true this.1)), Bool.true_or]
  · refine List.all_eq_true.mpr fun q hq => ?_
    have := (Bool.and_eq_true _ _).mp ((List.all_eq_true.mp hl) q hq)
    have h14 := Nat.le_of_ble_eq_true this.1
    have h5 : Nat.beq q 5 = false := by
      cases e2 : Nat.beq q 5 with
      | false => rfl
      | true => exact absurd (Nat.eq_of_beq_eq_true e2) (by omega)
    rw [Nat.ble_eq_true_of_le (Nat.le_trans (by decide) h14), this.2, h5]
    rfl
theorem CWd.tone {T : List Shp} {c : Cm} {R : Int → Int} {F : List Clz} (h : CWd T c R F) {l x : Int} (hl : 0 ≤ l ∧ l ≤ 16) (hx : 0 ≤ x ∧ x < 12) : c 7 (l * 12 + x) = R (12 + 12 * l + x) := by
  rw [h.1.2.2.2.2.1 _ (by omega) (by omega), show 12 + (l * 12 + x) = 12 + 12 * l + x from by omega]
theorem RNG.tone {R : Int → Int} (h : RNG R) {l x : Int} (hl : 0 ≤ l ∧ l ≤ 16) (hx : 0 ≤ x ∧ x < 12) : 0 ≤ R (12 + 12 * l + x) ∧ R (12 + 12 * l + x) ≤ 9 := by
  have := h.2.1 (12 * l + x) (by omega) (by omega)
  rw [show 12 + (12 * l + x) = 12 + 12 * l + x from by omega] at this
  exact this
theorem c_unlikeOf {T : List Shp} {c : Cm} {R : Int → Int} {F : List Clz} {l : Int} (h : CWd T c R F) (hl : 0 ≤ l ∧ l ≤ 16) : QI T (fun r c' => r = unl F R l ∧ Off [14, 15, 16, 17] [] c c') (ccal 96 [vR 19, vI l] (SH T, c)) := by
  have hR := h.2.1
  refine W_X9_unlikeOf (Q := QI T _) ?_
  refine lpI (E := fun i (s : Int × Cm) => cev 96 5 4 [vR 19, vI l, vI s.1, vI i] [] (SH T, s.2)) (fun i s => (0 ≤ i ∧ i ≤ 12) ∧ Off [14, 15, 16, 17] [] c s.2 ∧ s.1 = foldI (fun x n => n + abz (R (12 + 12 * l + x) - lk F R x l)) 0 i) 12 ?_ ?_ 0 (0, c) ⟨by omega, Off.rfl, rfl⟩
  · intro i s hi hI ih
    have hs := h.off hI.2.1 rfl
    have b := ulk_bd (P := fun x => R (12 + 12 * l + x)) (L := fun x => lk F R x l) (b := i) (by omega) (fun x _ _ => hR.tone hl (by omega)) (fun x _ _ => lk_bd hR)
    rw [← hI.2.2] at b
    refine W_X9_unlikeOf_4 ⟨fun _ => ?_, fun h => absurd hi h⟩
    refine ⟨by omega, (c_looksOf hs.1 hR hs.2.2 (by omega) (by omega)).mono fun r c2 h2 => ?_⟩
    rw [hs.tone hl (by omega), h2.1]
    have b1 := hR.tone hl (x := i) (by omega)
    have b2 := lk_bd (F := F) (x := i) (y := l) hR
    have b3 := abz_bd (v := R (12 + 12 * l + i) - lk F R i l)
    have b4 := b3.2 (by omega) (by omega)
    refine ⟨by omega, ih (_, c2) ⟨by omega, hI.2.1.trans h2.2, ?_⟩⟩
    rw [foldI_succ (by omega), ← hI.2.2]
  · intro i s hi hI
    refine W_X9_unlikeOf_4 ⟨fun h => absurd h (by omega), fun _ => QI.ret ⟨?_, hI.2.1⟩⟩
    have : i = 12 := by omega
    subst this
    exact hI.2.2
theorem c_farCell {T : List Shp} {c : Cm} {R : Int → Int} {F : List Clz} {l : Int} (h : CWd T c R F) (hl : 0 ≤ l ∧ l ≤ 16) : QI T (fun r c' => r = far F R l ∧ Off [14, 15, 16, 17] [] c c') (ccal 97 [vR 19, vI l] (SH T, c)) := by
  have hR := h.2.1
  refine W_X9_farCell (Q := QI T _) ?_
  refine lpI (E := fun i (s : Cm) => cev 97 5 2 [vR 19, vI l, vI i, vU] [] (SH T, s)) (fun i s => (0 ≤ i ∧ i ≤ 12) ∧ Off [14, 15, 16, 17] [] c s ∧ ∀ k, 0 ≤ k → k < i → decide (lt F R k l < abz (R (12 + 12 * l + k) - lk F R k l)) = false) 12 ?_ ?_ 0 c ⟨by omega, Off.rfl, fun k _ _ => by omega⟩
  · intro i s hi hI ih
    have hs := h.off hI.2.1 rfl
    refine W_X9_farCell_2 ⟨fun _ => ?_, fun h => absurd hi h⟩
    refine ⟨by omega, (c_looksOf hs.1 hR hs.2.2 (by omega) (by omega)).mono fun r c2 h2 => ?_⟩
    rw [hs.tone hl (by omega), h2.1]
    have b1 := hR.tone hl (x := i) (by omega)
    have b2 := lk_bd (F := F) (x := i) (y := l) hR
    have hs2 := hs.off h2.2 rfl
    refine ⟨by omega, (c_letsOf hs2.1 hR hs2.2.2 (by omega) (by omega)).mono fun r3 c4 h4 => ?_⟩
    have o4 := (hI.2.1.trans h2.2).trans h4.2
    rw [h4.1]
    refine ⟨fun h5 => QI.ret ⟨?_, o4⟩, fun h5 => ⟨by omega, ih c4 ⟨by omega, o4, fun k a b => ?_⟩⟩⟩
    · exact (frst_at (fun k a b => hI.2.2 k a b) (by omega) (by omega) (decide_eq_true h5)).symm
    · by_cases e : k = i
      · subst e; exact decide_eq_false h5
      · exact hI.2.2 k a (by omega)
  · intro i s hi hI
    refine W_X9_farCell_2 ⟨fun h => absurd h (by omega), fun _ => QI.ret ⟨?_, hI.2.1⟩⟩
    exact (frst_none (fun k a b => hI.2.2 k a (by omega)) (by omega)).symm
theorem mny_bd {F : List Clz} {R : Int → Int} {v b : Int} (hb : 0 ≤ b) : v - 999 * b ≤ foldI (fun i m => m - ask F R (R (216 + (i + 1))) (i + 1)) v b ∧ foldI (fun i m => m - ask F R (R (216 + (i + 1))) (i + 1)) v b ≤ v := by
  refine foldI_ind (fun i n => v - 999 * i ≤ n ∧ n ≤ v) (by omega) ?_ hb
  intro i n h1 h2 h3
  have := ask_bd (F := F) (R := R) (x := R (216 + (i + 1))) (y := i + 1)
  try dsimp only
  omega
theorem inc_bd {R : Int → Int} (hR : RNG R) {l : Int} (hl : 0 ≤ l ∧ l ≤ 200) : 0 ≤ R 10 * l ∧ R 10 * l ≤ 999 * 200 := by
  have h1 := hR.1
  refine ⟨Int.mul_nonneg (by omega) hl.1, ?_⟩
  have a := Int.mul_le_mul (a := R 10) (b := l) (c := 999) (d := 200) (by omega) hl.2 hl.1 (by omega)
  exact a
theorem c_moneyBehind {T : List Shp} {c : Cm} {R : Int → Int} {F : List Clz} {l : Int} (h : CWd T c R F) (hl : 0 ≤ l ∧ l ≤ R 4) : QI T (fun r c' => r = mny F R l ∧ Off [14, 15, 16, 17] [] c c') (ccal 98 [vR 19, vI l] (SH T, c)) := by
  have hR := h.2.1
  have h1 := hR.1
  have hi := inc_bd hR (l := l) (by omega)
  have t3 := h.1.1.2.2.2.2.2.2.2.2.2.2.1
  refine W_X9_moneyBehind (Q := QI T _) ?_
  rw [t3]
  refine ⟨by omega, ?_⟩
  refine lpI (E := fun i (s : Int × Cm) => cev 98 5 14 [vR 19, vI l, vI s.1, vI (i + 1)] [] (SH T, s.2)) (fun i s => (0 ≤ i ∧ i ≤ l) ∧ Off [14, 15, 16, 17] [] c s.2 ∧ s.1 = foldI (fun i m => m - ask F R (R (216 + (i + 1))) (i + 1)) (R 10 * l) i) l ?_ ?_ 0 (R 10 * l, c) ⟨by omega, Off.rfl, rfl⟩
  · intro i s hi hI ih
    have hs := h.off hI.2.1 rfl
    have b := mny_bd (F := F) (R := R) (v := R 10 * l) (b := i) (by omega)
    rw [← hI.2.2] at b
    have by' := hR.2.2.1 (i + 1) (by omega) (by omega)
    refine W_X9_moneyBehind_14 ⟨fun h => absurd h (by omega), fun _ => ⟨by omega, ?_⟩⟩
    rw [hs.1.2.2.2.1 (i + 1) (by omega) (by omega)]
    refine (c_asksOf hs.1 hR hs.2.2 by' (by omega)).mono fun r c2 h2 => ?_
    have a := ask_bd (F := F) (R := R) (x := R (216 + (i + 1))) (y := i + 1)
    rw [h2.1]
    refine ⟨by omega, ih (_, c2) ⟨by omega, hI.2.1.trans h2.2, ?_⟩⟩
    rw [foldI_succ (by omega), ← hI.2.2]
  · intro i s hi hI
    refine W_X9_moneyBehind_14 ⟨fun _ => QI.ret ⟨?_, hI.2.1⟩, fun h => absurd h (by omega)⟩
    have : i = l := by omega
    subst this
    exact hI.2.2
theorem c_aimAta {T : List Shp} {c : Cm} {R : Int → Int} {F : List Clz} {l : Int} (h : CWd T c R F) (hl : 0 ≤ l ∧ l ≤ 200) : QV T (fun c' => (∀ x, 0 ≤ x → x < 12 → c' 19 x = lk F R x l) ∧ Off [14, 15, 16, 17, 19] [] c c') (ccal 104 [vR 19, vI l, vR 20] (SH T, c)) := by
  have hR := h.2.1
  refine W_X9_aimAta (Q := QV T _) ?_
  refine lpI (E := fun i (s : Cm) => cev 104 5 2 [vR 19, vI l, vR 20, vI i] [] (SH T, s)) (fun i s => (0 ≤ i ∧ i ≤ 12) ∧ Off [14, 15, 16, 17, 19] [] c s ∧ ∀ x, 0 ≤ x → x < i → s 19 x = lk F R x l) 12 ?_ ?_ 0 c ⟨by omega, Off.rfl, fun k _ _ => by omega⟩
  · intro i s hi hI ih
    have hs := h.off hI.2.1 rfl
    refine W_X9_aimAta_2 ⟨fun _ => ?_, fun h => absurd hi h⟩
    refine (c_looksOf hs.1 hR hs.2.2 (by omega) (by omega)).mono fun r c2 h2 => ?_
    refine ⟨by omega, ih _ ⟨by omega, (hI.2.1.trans (h2.2.mono rfl rfl)).wr rfl, fun x a b => ?_⟩⟩
    rw [up_at]
    by_cases e : x = i
    · rw [if_pos e, e]; exact h2.1
    · rw [if_neg e, h2.2.cell rfl]; exact hI.2.2 x a (by omega)
  · intro i s hi hI
    refine W_X9_aimAta_2 ⟨fun h => absurd h (by omega), fun _ => QV.ret ⟨fun x a b => hI.2.2 x a (by omega), hI.2.1⟩⟩
theorem c_aimAtb {T : List Shp} {c : Cm} {R : Int → Int} {F : List Clz} {l : Int} (h : CWd T c R F) (hl : 0 ≤ l ∧ l ≤ 200) : QV T (fun c' => (∀ x, 0 ≤ x → x < 12 → c' 20 x = lk F R x l) ∧ Off [14, 15, 16, 17, 20] [] c c') (ccal 104 [vR 19, vI l, vR 21] (SH T, c)) := by
  have hR := h.2.1
  refine W_X9_aimAtb (Q := QV T _) ?_
  refine lpI (E := fun i (s : Cm) => cev 104 5 2 [vR 19, vI l, vR 21, vI i] [] (SH T, s)) (fun i s => (0 ≤ i ∧ i ≤ 12) ∧ Off [14, 15, 16, 17, 20] [] c s ∧ ∀ x, 0 ≤ x → x < i → s 20 x = lk F R x l) 12 ?_ ?_ 0 c ⟨by omega, Off.rfl, fun k _ _ => by omega⟩
  · intro i s hi hI ih
    have hs := h.off hI.2.1 rfl
    refine W_X9_aimAtb_2 ⟨fun _ => ?_, fun h => absurd hi h⟩
    refine (c_looksOf hs.1 hR hs.2.2 (by omega) (by omega)).mono fun r c2 h2 => ?_
    refine ⟨by omega, ih _ ⟨by omega, (hI.2.1.trans (h2.2.mono rfl rfl)).wr rfl, fun x a b => ?_⟩⟩
    rw [up_at]
    by_cases e : x = i
    · rw [if_pos e, e]; exact h2.1
    · rw [if_neg e, h2.2.cell rfl]; exact hI.2.2 x a (by omega)
  · intro i s hi hI
    refine W_X9_aimAtb_2 ⟨fun h => absurd h (by omega), fun _ => QV.ret ⟨fun x a b => hI.2.2 x a (by omega), hI.2.1⟩⟩
/-- tones through a row of painters: the number to the base n, the first one lowest -/
def thr (R : Int → Int) (n x a : Int) : Nat → Int → Int → Int
  | 0, _, t => t
  | k + 1, r, t => thr R n x a k (r / n) (brs R (r % n) x t a)
theorem c_comesOut {T : List Shp} {c : Cm} {R : Int → Int} {F : List Clz} {l r : Int} {k : Nat} (h : CWd T c R F) (hl : 1 ≤ l ∧ l ≤ R 4) (hr : 0 ≤ r ∧ r < 2147483648) (hk : k < 100) (ha : ∀ x, 0 ≤ x → x < 12 → c 19 x = lk F R x l) : ccal 105 [vR 19, vI l, vI r, vI (k : Int)] (SH T, c) = some (some (vI (b01 (R 0 ≠ 0 ∧ same (fun x => thr R (R 0) x (lk F R x l) k r (R (12 + 12 * (l - 1) + x))) (fun x => R (12 + 12 * l + x)) = true))), (SH T, c)) := by
  have hR := h.2.1
  have h1 := hR.1
  have e0 := h.1.1.1
  generalize hZ : (some (some (vI (b01 (R 0 ≠ 0 ∧ same (fun x => thr R (R 0) x (lk F R x l) k r (R (12 + 12 * (l - 1) + x))) (fun x => R (12 + 12 * l + x)) = true))), (SH T, c)) : Res) = Z
  refine W_X9_comesOut (Q := fun Y => Y = Z) ⟨fun h2 => ?_, fun h2 => ?_⟩
  · rw [e0] at h2
    rw [← hZ, b01_f (fun q => q.1 h2)]
  rw [e0] at h2
  refine lpI (Q := fun Y => Y = Z) (E := fun i (_ : Unit) => cev 105 3 15 [vR 19, vI l, vI r, vI (k : Int), vI i, vU, vU, vU] [] (SH T, c)) (fun i _ => (0 ≤ i ∧ i ≤ 12) ∧ ∀ x, 0 ≤ x → x < i → thr R (R 0) x (lk F R x l) k r (R (12 + 12 * (l - 1) + x)) = R (12 + 12 * l + x)) 12 ?_ ?_ 0 () ⟨by omega, fun k _ _ => by omega⟩
  · intro i _ hi hI ih
    refine W_X9_comesOut_15 (Q := fun Y => Y = Z) ⟨fun _ => ⟨by omega, ?_⟩, fun h => absurd hi h⟩
    rw [h.tone (by omega) (by omega)]
    have lk9 := lk_bd (F := F) (x := i) (y := l) hR
    have t9 := hR.tone (l := l - 1) (x := i) (by omega) (by omega)
    have key : ∀ (m : Nat) (j t q : Int), j + m = k → 0 ≤ j → (0 ≤ t ∧ t ≤ 9) → (0 ≤ q ∧ q < 2147483648) → thr R (R 0) i (lk F R i l) m q t = thr R (R 0) i (lk F R i l) k r (R (12 + 12 * (l - 1) + i)) → cev 105 3 47 [vR 19, vI l, vI r, vI (k : Int), vI i, vI t, vI q, vI j] [] (SH T, c) = Z := by
      intro m
      induction m with
      | zero =>
        intro j t q hj hj0 ht hq he
        refine W_X9_comesOut_47 (Q := fun Y => Y = Z) ⟨fun h3 => absurd h3 (by omega), fun _ => ⟨by omega, ?_⟩⟩
        rw [h.tone (by omega) (by omega)]
        have he' : t = thr R (R 0) i (lk F R i l) k r (R (12 + 12 * (l - 1) + i)) := he
        refine ⟨fun h4 => ⟨by omega, ih () ⟨by omega, fun x a b => ?_⟩⟩, fun h4 => ?_⟩
        · by_cases e : x = i
          · rw [e, ← he', h4]
          · exact hI.2 x a (by omega)
        · rw [← hZ, b01_f]
          intro q2
          exact h4 (he'.trans (same_iff.mp q2.2 i (by omega) (by omega)))
      | succ m ihm =>
        intro j t q hj hj0 ht hq he
        have hq2 : 0 ≤ q % R 0 ∧ q % R 0 < R 0 := ⟨Int.emod_nonneg _ (by omega), Int.emod_lt_of_pos _ (by omega)⟩
        have hq3 : 0 ≤ q / R 0 ∧ q / R 0 ≤ q := ⟨Int.ediv_nonneg hq.1 (by omega), Int.ediv_le_self _ hq.1⟩
        refine W_X9_comesOut_47 (Q := fun Y => Y = Z) ⟨fun _ => ?_, fun h3 => absurd h3 (by omega)⟩
        rw [e0, ha i (by omega) (by omega)]
        refine ⟨by omega, QI.of_eq (c_brushed h.1 hR hq2 (by omega) ht lk9) ?_⟩
        rw [e0]
        refine ⟨by omega, ?_⟩
        exact ihm (j + 1) _ _ (by omega) (by omega) brs_bd (by omega) he
    exact key k 0 _ r (by omega) (by omega) t9 hr rfl
  · intro i _ hi hI
    refine W_X9_comesOut_15 (Q := fun Y => Y = Z) ⟨fun h => absurd h (by omega), fun _ => ?_⟩
    show _ = Z
    rw [← hZ, b01_t ⟨h2, same_iff.mpr fun x a b => hI.2 x a (by omega)⟩]
theorem c_whoCan {T : List Shp} {c : Cm} {R : Int → Int} {F : List Clz} {l : Int} (h : CWd T c R F) (hl : 1 ≤ l ∧ l ≤ R 4) : QI T (fun r c' => r = who F R l ∧ Off [14, 15, 16, 17, 19] [] c c') (ccal 99 [vR 19, vI l] (SH T, c)) := by
  have hR := h.2.1
  have h1 := hR.1
  refine W_X9_whoCan (Q := QI T _) ?_
  refine (c_aimAta h (by omega)).mono fun c1 h2 => ?_
  have hs := h.off h2.2 rfl
  have e0 := hs.1.1.1
  refine lpI (E := fun i (s : Int) => cev 99 6 13 [vR 19, vI l, vI s, vI i] [] (SH T, c1)) (fun i s => (0 ≤ i ∧ i ≤ R 0) ∧ (0 ≤ s ∧ s < 2147483648) ∧ s = sto' (fun p => same (pnt R p (fun x => lk F R x l) (fun x => R (12 + 12 * (l - 1) + x))) (fun x => R (12 + 12 * l + x))) i) (R 0) ?_ ?_ 0 0 ⟨by omega, by omega, rfl⟩
  · intro i s hi hI ih
    refine W_X9_whoCan_13 ?_
    rw [e0]
    refine ⟨fun _ => QI.of_eq (c_comesOut (k := 1) hs hl (by omega) (by decide) h2.1) ?_, fun h => absurd hi h⟩
    have em : i % R 0 = i := Int.emod_eq_of_lt (by omega) (by omega)
    have sr := shl_rng (k := i) (n := 31) (by omega) (by omega) (by omega)
    refine ⟨fun h3 => ⟨by omega, ih _ ⟨by omega, hI.2.1, ?_⟩⟩, fun h3 => ⟨by omega, ih _ ⟨by omega, ior_rng (n := 31) (by omega) hI.2.1.1 hI.2.1.2 sr.1 sr.2, ?_⟩⟩⟩
    · unfold sto'
      rw [foldI_succ (by omega), if_neg]
      · exact hI.2.2
      · intro h4
        refine b01_eq0.mp h3 ⟨by omega, ?_⟩
        show same (fun x => brs R (i % R 0) x (R (12 + 12 * (l - 1) + x)) (lk F R x l)) _ = true
        rw [em]
        exact h4
    · unfold sto'
      rw [foldI_succ (by omega), if_pos]
      · rw [hI.2.2]; rfl
      · have h4 : b01 (R 0 ≠ 0 ∧ same (fun x => thr R (R 0) x (lk F R x l) 1 i (R (12 + 12 * (l - 1) + x))) (fun x => R (12 + 12 * l + x)) = true) = 1 := by
          rcases b01_or (p := R 0 ≠ 0 ∧ same (fun x => thr R (R 0) x (lk F R x l) 1 i (R (12 + 12 * (l - 1) + x))) (fun x => R (12 + 12 * l + x)) = true) with q | q
          · exact absurd q h3
          · exact q
        have h5 := (b01_eq1.mp h4).2
        have h6 : same (fun x => brs R (i % R 0) x (R (12 + 12 * (l - 1) + x)) (lk F R x l)) (fun x => R (12 + 12 * l + x)) = true := h5
        rw [em] at h6
        exact h6
  · intro i s hi hI
    refine W_X9_whoCan_13 ?_
    rw [e0]
    refine ⟨fun h => absurd h (by omega), fun _ => QI.ret ⟨?_, h2.2⟩⟩
    have : i = R 0 := by omega
    subst this
    exact hI.2.2
theorem c_carried {T : List Shp} {c : Cm} {R : Int → Int} {F : List Clz} {s p x a : Int} (h : CWd T c R F) (hs : 0 ≤ s ∧ s < 1024) (hp : 0 ≤ p ∧ p < R 0) (hx : 0 ≤ x ∧ x < 12) (ha : 0 ≤ a ∧ a ≤ 9) : QI T (fun r c' => c' = c ∧ (0 ≤ r ∧ r < 1024) ∧ ∀ j, 0 ≤ j → bt r j = anyI (fun t => bt s t && decide (brs R p x t a = j)) 10) (ccal 106 [vR 19, vI s, vI p, vI x, vI a] (SH T, c)) := by
  have hR := h.2.1
  refine W_X9_carried (Q := QI T _) ?_
  refine lpI (E := fun i (r : Int) => cev 106 3 6 [vR 19, vI s, vI p, vI x, vI a, vI r, vI i] [] (SH T, c)) (fun i r => (0 ≤ i ∧ i ≤ 10) ∧ (0 ≤ r ∧ r < 1024) ∧ ∀ j, 0 ≤ j → bt r j = anyI (fun t => bt s t && decide (brs R p x t a = j)) i) 10 ?_ ?_ 0 0 ⟨by omega, by omega, fun j _ => bt_0⟩
  · intro i r hi hI ih
    have b := brs_bd (R := R) (p := p) (x := x) (t := i) (a := a)
    have sr := shl_rng (k := brs R p x i a) (n := 10) (by omega) (by omega) (by omega)
    have ir := ior_rng (n := 10) (by omega) hI.2.1.1 hI.2.1.2 sr.1 sr.2
    refine W_X9_carried_6 ⟨fun _ => ?_, fun h => absurd hi h⟩
    rw [bt_iff hs.1 (by omega) hI.1.1 (by omega)]
    refine ⟨fun h2 => QI.of_eq (c_brushed h.1 hR hp hx (by omega) ha) ⟨by omega, ih _ ⟨by omega, ir, fun j hj => ?_⟩⟩, fun h2 => ⟨by omega, ih _ ⟨by omega, hI.2.1, fun j hj => ?_⟩⟩⟩
    · have sr2 : ishl 1 (brs R p x i a) < 2147483648 := Int.lt_trans sr.2 (by decide)
      rw [anyI_succ (by omega), ior_bt hI.2.1.1 (by omega) sr.1 sr2 hj, hI.2.2 j hj, shl_bt (by omega) (by omega) hj, h2, Bool.true_and]
      congr 1
      by_cases e : j = brs R p x i a
      · rw [decide_eq_true e, decide_eq_true e.symm]
      · rw [decide_eq_false e, decide_eq_false (fun q => e q.symm)]
    · rw [anyI_succ (by omega), hI.2.2 j hj, Bool.eq_false_iff.mpr h2, Bool.false_and, Bool.or_false]
  · intro i r hi hI
    refine W_X9_carried_6 ⟨fun h => absurd h (by omega), fun _ => QI.ret ⟨rfl, hI.2.1, ?_⟩⟩
    have : i = 10 := by omega
    subst this
    exact hI.2.2
theorem dri_bd {F : List Clz} {R : Int → Int} {x n : Int} (hR : RNG R) (hx : 0 ≤ x ∧ x < 12) (hn : 0 ≤ n) : 0 ≤ dri F R x n ∧ dri F R x n < 1024 := by
  have h1 := hR.1
  refine foldI_ind (fun _ s => 0 ≤ s ∧ s < 1024) ?_ ?_ hn
  · have := hR.tone (l := R 4) (x := x) (by omega) hx
    exact shl_rng (n := 10) (by omega) (by omega) (by omega)
  · intro i y _ _ _
    exact (sto_spec (n := 10) (by omega)).1
theorem c_driftOf {T : List Shp} {c : Cm} {R : Int → Int} {F : List Clz} {x n : Int} (h : CWd T c R F) (hx : 0 ≤ x ∧ x < 12) (hn : 0 ≤ n ∧ n ≤ 10) : QI T (fun r c' => r = dri F R x n ∧ Off [14, 15, 16, 17] [] c c') (ccal 101 [vR 19, vI x, vI n] (SH T, c)) := by
  have hR := h.2.1
  have h1 := hR.1
  have e8 := h.1.1.2.2.2.2.1
  refine W_X9_driftOf (Q := QI T _) ?_
  rw [e8, h.tone (by omega) hx]
  refine ⟨by omega, ?_⟩
  rw [← Int.add_zero (R 4 + 1)]
  refine lpI (E := fun i (s : Int × Cm) => cev 101 5 22 [vR 19, vI x, vI n, vI s.1, vI (R 4 + 1 + i), vU, vU, vU] [] (SH T, s.2)) (fun i s => (0 ≤ i ∧ i ≤ n) ∧ Off [14, 15, 16, 17] [] c s.2 ∧ s.1 = dri F R x i) n ?_ ?_ 0 (ishl 1 (R (12 + 12 * R 4 + x)), c) ⟨by omega, Off.rfl, rfl⟩
  · intro i s hi hI ih
    have hs := h.off hI.2.1 rfl
    have e8 := hs.1.1.2.2.2.2.1
    have bd := dri_bd (F := F) (x := x) (n := i) hR hx hI.1.1
    refine W_X9_driftOf_22 ?_
    rw [e8, hI.2.2]
    refine ⟨by omega, fun h => absurd h (by omega), fun _ => ?_⟩
    refine (c_looksOf hs.1 hR hs.2.2 hx (by omega)).mono fun r c1 h2 => ?_
    rw [h2.1]
    have o1 := hI.2.1.trans h2.2
    have lb := lk_bd (F := F) (x := x) (y := R 4 + 1 + i) hR
    refine lpI (E := fun p (u : Int × Cm) => cev 101 5 54 [vR 19, vI x, vI n, vI (dri F R x i), vI (R 4 + 1 + i), vI (lk F R x (R 4 + 1 + i)), vI u.1, vI p] [] (SH T, u.2)) (fun p u => (0 ≤ p ∧ p ≤ R 0) ∧ Off [14, 15, 16, 17] [] c u.2 ∧ (0 ≤ u.1 ∧ u.1 < 1024) ∧ ∀ j, 0 ≤ j → bt u.1 j = anyI (fun p => !brp F R p (R 4 + 1 + i) && anyI (fun t => bt (dri F R x i) t && decide (brs R p x t (lk F R x (R 4 + 1 + i)) = j)) 10) p) (R 0) ?_ ?_ 0 (0, c1) ⟨by omega, o1, (show (0 : Int) ≤ 0 ∧ (0 : Int) < 1024 by decide), fun j _ => bt_0⟩
    · intro p u hp hU ihp
      have hu := h.off hU.2.1 rfl
      have e0 := hu.1.1.1
      refine W_X9_driftOf_54 ?_
      rw [e0]
      refine ⟨fun _ => ?_, fun h => absurd hp h⟩
      refine (c_barsPainter hu.1 hR hu.2.2 (p := p) (y := R 4 + 1 + i) (by omega) (by omega)).mono fun r2 c2 h3 => ?_
      have o2 := hU.2.1.trans h3.2
      have hu2 := h.off o2 rfl
      rw [h3.1]
      refine ⟨fun h4 => ?_, fun h4 => ⟨by omega, ihp (u.1, c2) ⟨by omega, o2, hU.2.2.1, fun j hj => ?_⟩⟩⟩
      · refine (c_carried hu2 bd (by omega) hx lb).mono fun r4 c4 h5 => ⟨by omega, ?_⟩
        obtain ⟨rfl, h6, h7⟩ := h5
        refine ihp (ior u.1 r4, c4) ⟨by omega, o2, ior_rng (n := 10) (by omega) hU.2.2.1.1 hU.2.2.1.2 h6.1 h6.2, fun j hj => ?_⟩
        show bt (ior u.1 r4) j = _
        rw [anyI_succ (by omega), ior_bt hU.2.2.1.1 (by omega) h6.1 (by omega) hj, hU.2.2.2 j hj, h7 j hj, Bool.eq_false_iff.mpr (b01_eq0.mp h4)]
        rfl
      · rw [anyI_succ (by omega), hU.2.2.2 j hj]
        have : brp F R p (R 4 + 1 + i) = true := by
          cases e : brp F R p (R 4 + 1 + i) with
          | true => rfl
          | false => exact absurd (b01_f (by rw [e]; decide)) h4
        rw [this]
        show _ = (_ || (false && _))
        rw [Bool.false_and, Bool.or_false]
    · intro p u hp hU
      have hu := h.off hU.2.1 rfl
      have e0 := hu.1.1.1
      refine W_X9_driftOf_54 ?_
      rw [e0]
      refine ⟨fun h => absurd h (by omega), fun _ => ⟨by omega, ?_⟩⟩
      rw [show R 4 + 1 + i + 1 = R 4 + 1 + (i + 1) from by omega]
      refine ih (_, u.2) ⟨by omega, hU.2.1, ?_⟩
      unfold dri
      rw [foldI_succ hI.1.1]
      have : p = R 0 := by omega
      subst this
      exact sto_eq (n := 10) (by omega) hU.2.2.1.1 hU.2.2.1.2 fun k hk _ => hU.2.2.2 k hk
  · intro i s hi hI
    have hs := h.off hI.2.1 rfl
    have e8 := hs.1.1.2.2.2.2.1
    refine W_X9_driftOf_22 ?_
    rw [e8]
    refine ⟨by omega, fun _ => QI.ret ⟨?_, hI.2.1⟩, fun h => absurd h (by omega)⟩
    have : i = n := by omega
    subst this
    exact hI.2.2
theorem c_undo {T : List Shp} {c : Cm} {R : Int → Int} {F : List Clz} {p q : Int} (h : CWd T c R F) (hp : 0 ≤ p ∧ p < R 0) (hq : 0 ≤ q ∧ q < R 0) (ha : ∀ x, 0 ≤ x → x < 12 → c 19 x = lk F R x (R 4 + 1)) (hb : ∀ x, 0 ≤ x → x < 12 → c 20 x = lk F R x (R 4 + 2)) : ccal 107 [vR 19, vI p, vI q] (SH T, c) = some (some (vI (b01 (und F R p q = true))), (SH T, c)) := by
  have hR := h.2.1
  have h1 := hR.1
  have e8 := h.1.1.2.2.2.2.1
  generalize hZ : (some (some (vI (b01 (und F R p q = true))), (SH T, c)) : Res) = Z
  refine W_X9_undo (Q := fun Y => Y = Z) ?_
  refine lpI (Q := fun Y => Y = Z) (E := fun i (_ : Unit) => cev 107 3 2 [vR 19, vI p, vI q, vI i, vU, vU] [] (SH T, c)) (fun i _ => (0 ≤ i ∧ i ≤ 12) ∧ ∀ x, 0 ≤ x → x < i → brs R q x (brs R p x (R (12 + 12 * R 4 + x)) (lk F R x (R 4 + 1))) (lk F R x (R 4 + 2)) = R (12 + 12 * R 4 + x)) 12 ?_ ?_ 0 () ⟨by omega, fun k _ _ => by omega⟩
  · intro i _ hi hI ih
    have lk9 := lk_bd (F := F) (x := i) (y := R 4 + 1) hR
    have lk8 := lk_bd (F := F) (x := i) (y := R 4 + 2) hR
    have t9 := hR.tone (l := R 4) (x := i) (by omega) (by omega)
    refine W_X9_undo_2 (Q := fun Y => Y = Z) ⟨fun _ => ?_, fun h => absurd hi h⟩
    rw [e8, h.tone (by omega) (by omega), ha i (by omega) (by omega)]
    refine ⟨by omega, QI.of_eq (c_brushed h.1 hR hp (by omega) t9 lk9) ⟨by omega, ?_⟩⟩
    rw [hb i (by omega) (by omega)]
    refine QI.of_eq (c_brushed h.1 hR hq (by omega) brs_bd lk8) ⟨fun h2 => ⟨by omega, ih () ⟨by omega, fun x a b => ?_⟩⟩, fun h2 => ?_⟩
    · by_cases e : x = i
      · rw [e]; exact h2
      · exact hI.2 x a (by omega)
    · show _ = Z
      rw [← hZ, b01_f]
      intro h3
      exact h2 (same_iff.mp h3 i (by omega) (by omega))
  · intro i _ hi hI
    refine W_X9_undo_2 (Q := fun Y => Y = Z) ⟨fun h => absurd h (by omega), fun _ => ?_⟩
    show _ = Z
    have hu : und F R p q = true := same_iff.mpr fun x a b => hI.2 x a (by omega)
    rw [← hZ, b01_t hu]
theorem frst_rng {p : Int → Bool} {n : Int} (hn : 0 ≤ n) (h : ∀ j, 0 ≤ j → j < n → p j = false) : frst p n = -1 := frst_none h hn
theorem c_undoingPair {T : List Shp} {c : Cm} {R : Int → Int} {F : List Clz} {i : Int} (h : CWd T c R F) : QI T (fun r c' => r = udo F R i ∧ Off [14, 15, 16, 17, 19, 20] [] c c') (ccal 102 [vR 19, vI i] (SH T, c)) := by
  have hR := h.2.1
  have h1 := hR.1
  refine W_X9_undoingPair (Q := QI T _) ?_
  rw [h.1.1.2.2.2.2.1]
  refine ⟨by omega, (c_aimAta h (by omega)).mono fun c1 h2 => ?_⟩
  have hs := h.off h2.2 rfl
  rw [hs.1.1.2.2.2.2.1]
  refine ⟨by omega, (c_aimAtb hs (by omega)).mono fun c2 h3 => ?_⟩
  have hs2 := hs.off h3.2 rfl
  have o2 : Off [14, 15, 16, 17, 19, 20] [] c c2 := (h2.2.mono rfl rfl).trans (h3.2.mono rfl rfl)
  have ha : ∀ x, 0 ≤ x → x < 12 → c2 19 x = lk F R x (R 4 + 1) := fun x a b => by rw [h3.2.cell rfl]; exact h2.1 x a b
  have hb := h3.1
  have e0 := hs2.1.1.1
  have dv : ∀ p q : Int, 0 ≤ p → 0 ≤ q → q < 5 → (5 * p + q) / 5 = p ∧ (5 * p + q) % 5 = q := fun p q a b d => by omega
  have uf : ∀ p q : Int, 0 ≤ p → p < R 0 → 0 ≤ q → q < R 0 → unp F R (5 * p + q) = und F R p q := by
    intro p q a b d e
    have := dv p q a d (by omega)
    unfold unp
    rw [this.1, this.2, decide_eq_true b, decide_eq_true e]
    rfl
  have un : ∀ p q : Int, 0 ≤ p → R 0 ≤ q → q < 5 → unp F R (5 * p + q) = false := by
    intro p q a b d
    have := dv p q a (by omega) d
    unfold unp
    rw [this.2, decide_eq_false (show ¬ q < R 0 by omega), Bool.false_and, Bool.and_false]
  refine lpI (E := fun p (k : Int) => cev 102 6 38 [vR 19, vI i, vI k, vI p, vU] [] (SH T, c2)) (fun p k => (0 ≤ p ∧ p ≤ R 0) ∧ k = cnt (unp F R) (5 * p) ∧ ∀ j, 0 ≤ j → j < 5 * p → (unp F R j && decide (cnt (unp F R) j = i)) = false) (R 0) ?_ ?_ 0 0 ⟨by omega, rfl, fun k _ _ => by omega⟩
  · intro p k hp hK ih
    refine W_X9_undoingPair_38 ?_
    rw [e0]
    refine ⟨fun _ => ?_, fun h => absurd hp h⟩
    refine lpI (E := fun q (k : Int) => cev 102 6 52 [vR 19, vI i, vI k, vI p, vI q] [] (SH T, c2)) (fun q k => (0 ≤ q ∧ q ≤ R 0) ∧ k = cnt (unp F R) (5 * p + q) ∧ ∀ j, 0 ≤ j → j < 5 * p + q → (unp F R j && decide (cnt (unp F R) j = i)) = false) (R 0) ?_ ?_ 0 k ⟨by omega, by rw [Int.add_zero]; exact hK.2.1, fun j a b => hK.2.2 j a (by omega)⟩
    · intro q k hq hJ ihq
      have cb := cnt_bd (p := unp F R) (n := 5 * p + q) (by omega)
      refine W_X9_undoingPair_52 ?_
      rw [e0]
      refine ⟨fun _ => QI.of_eq (c_undo hs2 (by omega) (by omega) ha hb) ⟨fun h4 => ⟨by omega, ihq _ ⟨by omega, ?_, fun j a b => ?_⟩⟩, fun h4 => ⟨fun h5 => ⟨by omega, QI.ret ⟨?_, o2⟩⟩, fun h5 => ⟨by omega, ihq _ ⟨by omega, ?_, fun j a b => ?_⟩⟩⟩⟩, fun h => absurd hq h⟩
      · rw [show 5 * p + (q + 1) = 5 * p + q + 1 from by omega, cnt_succ (by omega), uf p q (by omega) (by omega) (by omega) (by omega), if_neg (b01_eq0.mp h4)]
        exact hJ.2.1
      · by_cases e : j = 5 * p + q
        · rw [e, uf p q (by omega) (by omega) (by omega) (by omega), Bool.eq_false_iff.mpr (b01_eq0.mp h4), Bool.false_and]
        · exact hJ.2.2 j a (by omega)
      · have hu : und F R p q = true := by
          cases e : und F R p q with
          | true => rfl
          | false => exact absurd (b01_f (by rw [e]; decide)) h4
        have : ith (unp F R) i 25 = 5 * p + q := by
          refine frst_at (fun j a b => hJ.2.2 j a b) (by omega) (by omega) ?_
          try dsimp only
          rw [uf p q (by omega) (by omega) (by omega) (by omega), hu, ← hJ.2.1, decide_eq_true h5]
          rfl
        unfold udo
        rw [this, if_neg (by omega)]
      · have hu : und F R p q = true := by
          cases e : und F R p q with
          | true => rfl
          | false => exact absurd (b01_f (by rw [e]; decide)) h4
        rw [show 5 * p + (q + 1) = 5 * p + q + 1 from by omega, cnt_succ (by omega), uf p q (by omega) (by omega) (by omega) (by omega), if_pos hu, ← hJ.2.1]
      · by_cases e : j = 5 * p + q
        · rw [e, ← hJ.2.1, decide_eq_false h5, Bool.and_false]
        · exact hJ.2.2 j a (by omega)
    · intro q k hq hJ
      have : q = R 0 := by omega
      subst this
      refine W_X9_undoingPair_52 ?_
      rw [e0]
      refine ⟨fun h => absurd h (by omega), fun _ => ⟨by omega, ih _ ⟨by omega, ?_, fun j a b => ?_⟩⟩⟩
      · have := cnt_skip (p := unp F R) (a := 5 * p + R 0) (5 - R 0).toNat (by omega) (fun j a b => by
          have := un p (j - 5 * p) (by omega) (by omega) (by omega)
          rwa [show 5 * p + (j - 5 * p) = j from by omega] at this)
        rw [show 5 * (p + 1) = 5 * p + R 0 + ((5 - R 0).toNat : Int) from by omega, this]
        exact hJ.2.1
      · by_cases e : j < 5 * p + R 0
        · exact hJ.2.2 j a e
        · have := un p (j - 5 * p) (by omega) (by omega) (by omega)
          rw [show 5 * p + (j - 5 * p) = j from by omega] at this
          rw [this, Bool.false_and]
  · intro p k hp hK
    have : p = R 0 := by omega
    subst this
    have un2 : ∀ j, 5 * R 0 ≤ j → j < 25 → unp F R j = false := by
      intro j a b
      unfold unp
      rw [decide_eq_false (show ¬ j / 5 < R 0 by omega), Bool.false_and]
    have e25 : cnt (unp F R) 25 = k := by
      have := cnt_skip (p := unp F R) (a := 5 * R 0) (25 - 5 * R 0).toNat (by omega) (fun j a b => un2 j a (by omega))
      rw [show 5 * R 0 + ((25 - 5 * R 0).toNat : Int) = 25 from by omega] at this
      rw [this, hK.2.1]
    have ei : ith (unp F R) i 25 = -1 := by
      refine frst_none (fun j a b => ?_) (by omega)
      by_cases e : j < 5 * R 0
      · exact hK.2.2 j a e
      · rw [un2 j (by omega) b, Bool.false_and]
    refine W_X9_undoingPair_38 ?_
    rw [e0]
    refine ⟨fun h => absurd h (by omega), fun _ => ⟨fun h4 => QI.ret ⟨?_, o2⟩, fun h4 => QI.ret ⟨?_, o2⟩⟩⟩
    · unfold udo
      rw [ei, if_pos rfl, if_pos h4, e25]
    · unfold udo
      rw [ei, if_pos rfl, if_neg h4]
theorem fwd_front {F : List Clz} {R : Int → Int} {x l t n : Int} (hn : 0 ≤ n) : fwd F R x l t (n + 1) = fwd F R x (l + 1) (brs R (R (216 + (l + 1))) x t (lk F R x (l + 1))) n := by
  unfold fwd
  rw [foldI_front hn, Int.add_zero]
  refine foldI_congr fun i y _ _ => ?_
  rw [show l + (i + 1) + 1 = l + 1 + i + 1 from by omega]
theorem fwd_bd {F : List Clz} {R : Int → Int} {x l t n : Int} (ht : 0 ≤ t ∧ t ≤ 9) (hn : 0 ≤ n) : 0 ≤ fwd F R x l t n ∧ fwd F R x l t n ≤ 9 := foldI_ind (fun _ v => 0 ≤ v ∧ v ≤ 9) ht (fun _ _ _ _ _ => brs_bd) hn
theorem was_bd {F : List Clz} {R : Int → Int} {x : Int} : 0 ≤ was F R x ∧ was F R x < 1024 := (sto_spec (n := 10) (by omega)).1
theorem c_firstTones {T : List Shp} {c : Cm} {R : Int → Int} {F : List Clz} {x : Int} (h : CWd T c R F) (hx : 0 ≤ x ∧ x < 12) : QI T (fun r c' => r = was F R x ∧ Off [14, 15, 16, 17] [] c c') (ccal 103 [vR 19, vI x] (SH T, c)) := by
  have hR := h.2.1
  have h1 := hR.1
  have e8 := h.1.1.2.2.2.2.1
  have t9 := hR.tone (l := R 4) (x := x) (by omega) hx
  refine W_X9_firstTones (Q := QI T _) ?_
  rw [e8, h.tone (by omega) hx]
  refine ⟨by omega, ?_⟩
  have s0 := shl_rng (k := R (12 + 12 * R 4 + x)) (n := 10) (by omega) (by omega) (by omega)
  refine lpD (E := fun l (s : Int × Cm) => cev 103 5 19 [vR 19, vI x, vI s.1, vI l, vU, vU, vU, vU] [] (SH T, s.2)) (fun l s => (0 ≤ l ∧ l ≤ R 4) ∧ Off [14, 15, 16, 17] [] c s.2 ∧ (0 ≤ s.1 ∧ s.1 < 1024) ∧ ∀ t, 0 ≤ t → t < 10 → bt s.1 t = decide (fwd F R x l t (R 4 - l) = R (12 + 12 * R 4 + x))) 1 ?_ ?_ (R 4) (ishl 1 (R (12 + 12 * R 4 + x)), c) ⟨by omega, Off.rfl, s0, fun t a b => ?_⟩
  · intro l s hl hI ih
    have hs := h.off hI.2.1 rfl
    have byl := hR.2.2.1 l (by omega) (by omega)
    refine W_X9_firstTones_19 ⟨fun h => absurd h (by omega), fun _ => ?_⟩
    refine (c_looksOf hs.1 hR hs.2.2 hx (by omega)).mono fun r c1 h2 => ?_
    have o1 := hI.2.1.trans h2.2
    have hs1 := h.off o1 rfl
    rw [h2.1]
    have lb := lk_bd (F := F) (x := x) (y := l) hR
    refine lpI (E := fun t (u : Int) => cev 103 5 41 [vR 19, vI x, vI s.1, vI l, vI (lk F R x l), vI u, vI t, vU] [] (SH T, c1)) (fun t u => (0 ≤ t ∧ t ≤ 10) ∧ (0 ≤ u ∧ u < 1024) ∧ ∀ j, 0 ≤ j → bt u j = (decide (j < t) && decide (fwd F R x (l - 1) j (R 4 - (l - 1)) = R (12 + 12 * R 4 + x)))) 10 ?_ ?_ 0 0 ⟨by omega, by omega, fun j _ => by rw [bt_0, decide_eq_false (show ¬ j < 0 by omega)]; rfl⟩
    · intro t u ht hU iht
      have b9 := brs_bd (R := R) (p := R (216 + l)) (x := x) (t := t) (a := lk F R x l)
      refine W_X9_firstTones_41 ⟨fun _ => ⟨by omega, ?_⟩, fun h => absurd ht h⟩
      rw [hs1.1.2.2.2.1 l (by omega) (by omega)]
      refine QI.of_eq (c_brushed hs1.1 hR byl hx (by omega) lb) ⟨by omega, ?_⟩
      rw [bt_val hI.2.2.1.1 (by omega) b9.1 (by omega), hI.2.2.2 _ b9.1 (by omega)]
      have ef : fwd F R x (l - 1) t (R 4 - (l - 1)) = fwd F R x l (brs R (R (216 + l)) x t (lk F R x l)) (R 4 - l) := by
        rw [show R 4 - (l - 1) = R 4 - l + 1 from by omega, fwd_front (by omega), show l - 1 + 1 = l from by omega]
      have sr := shl_rng (k := t) (n := 10) (by omega) (by omega) (by omega)
      by_cases e : fwd F R x l (brs R (R (216 + l)) x t (lk F R x l)) (R 4 - l) = R (12 + 12 * R 4 + x)
      · rw [b01_t (decide_eq_true e)]
        refine iht _ ⟨by omega, ior_rng (n := 10) (by omega) hU.2.1.1 hU.2.1.2 sr.1 sr.2, fun j hj => ?_⟩
        have sr2 : ishl 1 t < 2147483648 := Int.lt_trans sr.2 (by decide)
        rw [ior_bt hU.2.1.1 (by omega) sr.1 sr2 hj, hU.2.2 j hj, shl_bt (by omega) (by omega) hj]
        by_cases ej : j = t
        · rw [ej, decide_eq_true rfl, Bool.or_true, decide_eq_true (show t < t + 1 by omega), ef, decide_eq_true e]
          rfl
        · rw [decide_eq_false ej, Bool.or_false]
          by_cases e4 : j < t
          · rw [decide_eq_true e4, decide_eq_true (show j < t + 1 by omega)]
          · rw [decide_eq_false e4, decide_eq_false (show ¬ j < t + 1 by omega)]
      · rw [b01_f (by rw [decide_eq_false e]; decide)]
        obtain ⟨m, rfl⟩ := Int.eq_ofNat_of_zero_le hU.1.1
        rw [ishl0_nat ⟨m, by omega⟩, ior_0 hU.2.1.1 (by omega)]
        refine iht _ ⟨by omega, hU.2.1, fun j hj => ?_⟩
        rw [hU.2.2 j hj]
        by_cases ej : j = m
        · rw [ej, decide_eq_false (show ¬ (m : Int) < m by omega), decide_eq_true (show (m : Int) < m + 1 by omega), ef, decide_eq_false e]
          rfl
        · by_cases e4 : j < m
          · rw [decide_eq_true e4, decide_eq_true (show j < m + 1 by omega)]
          · rw [decide_eq_false e4, decide_eq_false (show ¬ j < m + 1 by omega)]
    · intro t u ht hU
      have : t = 10 := by omega
      subst this
      refine W_X9_firstTones_41 ⟨fun h => absurd h (by omega), fun _ => ⟨by omega, ?_⟩⟩
      refine ih (u, c1) ⟨by omega, o1, hU.2.1, fun j a b => ?_⟩
      rw [hU.2.2 j a, decide_eq_true b]
      rfl
  · intro l s hl hI
    have : l = 0 := by omega
    subst this
    refine W_X9_firstTones_19 ⟨fun _ => QI.ret ⟨?_, hI.2.1⟩, fun h => absurd h (by omega)⟩
    refine sto_eq (n := 10) (by omega) hI.2.2.1.1 hI.2.2.1.2 fun k a b => ?_
    rw [hI.2.2.2 k a b, show R 4 - 0 = R 4 from by omega]
  · rw [shl_bt (by omega) (by omega) a]
    show _ = decide (fwd F R x (R 4) t (R 4 - R 4) = _)
    rw [show R 4 - R 4 = 0 from by omega]
    rfl
def pw (n : Int) : Nat → Int
  | 0 => 1
  | k + 1 => pw n k * n
theorem pw_bd {n : Int} {k : Nat} (hn : 0 ≤ n ∧ n ≤ 5) (hk : k ≤ 3) : 0 ≤ pw n k ∧ pw n k ≤ 125 := by
  have h1 : n = 0 ∨ n = 1 ∨ n = 2 ∨ n = 3 ∨ n = 4 ∨ n = 5 := by omega
  have h2 : k = 0 ∨ k = 1 ∨ k = 2 ∨ k = 3 := by omega
  rcases h1 with h | h | h | h | h | h <;> rcases h2 with g | g | g | g <;> subst h <;> subst g <;> decide
/-- in how many rows of k painters a layer comes out so -/
def mis (F : List Clz) (R : Int → Int) (l : Int) (k : Nat) : Int := cnt (fun r => same (fun x => thr R (R 0) x (lk F R x l) k r (R (12 + 12 * (l - 1) + x))) (fun x => R (12 + 12 * l + x))) (pw (R 0) k)
theorem c_rowsInto {T : List Shp} {c : Cm} {R : Int → Int} {F : List Clz} {l : Int} {k : Nat} (h : CWd T c R F) (hl : 1 ≤ l ∧ l ≤ R 4) (hk : k ≤ 3) (hk1 : 1 ≤ k) : QI T (fun r c' => r = mis F R l k ∧ Off [14, 15, 16, 17, 19] [] c c') (ccal 100 [vR 19, vI l, vI (k : Int)] (SH T, c)) := by
  have hR := h.2.1
  have h1 := hR.1
  refine W_X9_rowsInto (Q := QI T _) ?_
  refine (c_aimAta h (by omega)).mono fun c1 h2 => ?_
  have hs := h.off h2.2 rfl
  have e0 := hs.1.1.1
  refine lpI (E := fun i (s : Int) => cev 100 6 14 [vR 19, vI l, vI (k : Int), vI s, vI i, vU] [] (SH T, c1)) (fun i s => (0 ≤ i ∧ i ≤ k) ∧ s = pw (R 0) i.toNat) k ?_ ?_ 0 1 ⟨by omega, rfl⟩
  · intro i s hi hI ih
    have b := pw_bd (n := R 0) (k := i.toNat) (by omega) (by omega)
    have b2 := pw_bd (n := R 0) (k := i.toNat + 1) (by omega) (by omega)
    have e2 : pw (R 0) (i.toNat + 1) = pw (R 0) i.toNat * R 0 := rfl
    refine W_X9_rowsInto_14 ?_
    rw [e0, hI.2, ← e2]
    refine ⟨fun _ => ⟨by omega, ih _ ⟨by omega, ?_⟩⟩, fun h => absurd hi h⟩
    rw [show (i + 1).toNat = i.toNat + 1 from by omega]
  · intro i s hi hI
    have : i = k := by omega
    subst this
    refine W_X9_rowsInto_14 ⟨fun h => absurd h (by omega), fun _ => ?_⟩
    rw [hI.2, Int.toNat_natCast]
    have b := pw_bd (n := R 0) (k := k) (by omega) (by omega)
    refine lpI (E := fun i (s : Int) => cev 100 6 42 [vR 19, vI l, vI (k : Int), vI (pw (R 0) k), vI s, vI i] [] (SH T, c1)) (fun i s => (0 ≤ i ∧ i ≤ pw (R 0) k) ∧ s = cnt (fun r => same (fun x => thr R (R 0) x (lk F R x l) k r (R (12 + 12 * (l - 1) + x))) (fun x => R (12 + 12 * l + x))) i) (pw (R 0) k) ?_ ?_ 0 0 ⟨by omega, rfl⟩
    · intro i s hi hI ih
      have cb := cnt_bd (p := fun r => same (fun x => thr R (R 0) x (lk F R x l) k r (R (12 + 12 * (l - 1) + x))) (fun x => R (12 + 12 * l + x))) (n := i) (by omega)
      rw [← hI.2] at cb
      have r0 : R 0 ≠ 0 := by
        intro e
        have : pw (R 0) k = 0 := by
          obtain ⟨m, rfl⟩ : ∃ m, k = m + 1 := ⟨k - 1, by omega⟩
          show pw (R 0) m * R 0 = 0
          rw [e, Int.mul_zero]
        omega
      refine W_X9_rowsInto_42 ⟨fun _ => QI.of_eq (c_comesOut hs hl (by omega) (by omega) h2.1) ⟨fun h3 => ⟨by omega, ih _ ⟨by omega, ?_⟩⟩, fun h3 => ⟨by omega, ih _ ⟨by omega, ?_⟩⟩⟩, fun h => absurd hi h⟩
      · rw [cnt_succ (by omega), if_neg (fun q => b01_eq0.mp h3 ⟨r0, q⟩)]
        exact hI.2
      · rw [cnt_succ (by omega), if_pos, ← hI.2]
        cases e : same (fun x => thr R (R 0) x (lk F R x l) k i (R (12 + 12 * (l - 1) + x))) (fun x => R (12 + 12 * l + x)) with
        | true => rfl
        | false => exact absurd (b01_f (fun q => by rw [e] at q; exact absurd q.2 (by decide))) h3
    · intro i s hi hI
      have : i = pw (R 0) k := by omega
      subst this
      refine W_X9_rowsInto_42 ⟨fun h => absurd h (by omega), fun _ => QI.ret ⟨hI.2, h2.2⟩⟩
theorem scp_congr {R R' : Int → Int} {x y : Int} (hR : 0 ≤ R 3 ∧ R 3 ≤ 6) (h : ∀ j, (j < 12 ∨ (258 ≤ j ∧ j < 276)) → R' j = R j) : scp R' x y = scp R x y := by
  unfold scp
  rw [h 3 (by omega)]
  refine foldI_congr fun i p a b => ?_
  rw [h (258 + 3 * i) (by omega), h (258 + 3 * i + 1) (by omega), h (258 + 3 * i + 2) (by omega)]
theorem wB_congr {R R' : Int → Int} {y : Int} (h : ∀ j, j < 12 → R' j = R j) : wB R' y = wB R y := by
  funext i
  unfold wB ag
  rw [h 7 (by omega), h 8 (by omega), h 9 (by omega)]
theorem lk_congr {F : List Clz} {R R' : Int → Int} {x y : Int} (hR : 0 ≤ R 3 ∧ R 3 ≤ 6) (h : ∀ j, (j < 12 ∨ (258 ≤ j ∧ j < 276)) → R' j = R j) : lk F R' x y = lk F R x y := by
  unfold lk wC
  rw [scp_congr hR h, wB_congr (fun j hj => h j (.inl hj))]
  unfold ag
  rw [h 7 (by omega), h 8 (by omega)]
/-- the row with i cells more of the next layer -/
def tR (F : List Clz) (R : Int → Int) (p i : Int) : Int → Int := fun j => if 24 + 12 * R 4 ≤ j ∧ j < 24 + 12 * R 4 + i then brs R p (j - (24 + 12 * R 4)) (R (j - 12)) (lk F R (j - (24 + 12 * R 4)) (R 4 + 1)) else R j
/-- the row with one year more -/
def pRw (F : List Clz) (R : Int → Int) (p : Int) : Int → Int := fun j => if j = 4 then R 4 + 1 else if j = 217 + R 4 then p else tR F R p 12 j
theorem tR_out {F : List Clz} {R : Int → Int} {p i j : Int} (h : ¬ (24 + 12 * R 4 ≤ j ∧ j < 24 + 12 * R 4 + i)) : tR F R p i j = R j := if_neg h
theorem tR_rng {F : List Clz} {R : Int → Int} {p i : Int} (hR : RNG R) (h4 : R 4 ≤ 15) (hi : i ≤ 12) : RNG (tR F R p i) := by
  have h1 := hR.1
  have o : ∀ j, (j < 24 + 12 * R 4 ∨ 216 ≤ j) → tR F R p i j = R j := fun j hj => tR_out (by omega)
  refine ⟨?_, ?_, ?_, ?_, ?_, ?_, ?_, ?_⟩
  · rw [o 0 (by omega), o 1 (by omega), o 2 (by omega), o 3 (by omega), o 4 (by omega), o 5 (by omega), o 6 (by omega), o 7 (by omega), o 8 (by omega), o 9 (by omega), o 10 (by omega), o 11 (by omega)]
    exact h1
  · intro k a b
    unfold tR
    split
    · exact brs_bd
    · exact hR.2.1 k a b
  · intro l a b
    rw [o 4 (by omega)] at b
    rw [o _ (by omega), o 0 (by omega)]
    exact hR.2.2.1 l a b
  · intro q a b
    rw [o 0 (by omega)] at b
    rw [o _ (by omega), o _ (by omega)]
    exact hR.2.2.2.1 q a b
  · intro q k a b a2 b2
    rw [o 0 (by omega)] at b
    rw [o _ (by omega)]
    exact hR.2.2.2.2.1 q k a b a2 b2
  · intro s a b
    rw [o 3 (by omega)] at b
    rw [o _ (by omega), o _ (by omega), o _ (by omega)]
    exact hR.2.2.2.2.2.1 s a b
  · intro k a b
    rw [o _ (by omega)]
    exact hR.2.2.2.2.2.2.1 k a b
  · intro q a b
    rw [o 6 (by omega)] at b
    rw [o _ (by omega), o _ (by omega), o _ (by omega), o _ (by omega)]
    exact hR.2.2.2.2.2.2.2 q a b
theorem c_paintNext {T : List Shp} {c : Cm} {R : Int → Int} {F : List Clz} {p : Int} (h : CWd T c R F) (hp : 0 ≤ p ∧ p < R 0) (h4 : R 4 ≤ 15) : QV T (fun c' => CS c' (pRw F R p) ∧ CL T c' F ∧ Off [1, 6, 7, 14, 15, 16, 17] [] c c' ∧ (∀ j, j ≠ 8 → c' 1 j = c 1 j)) (ccal 95 [vR 19, vI p] (SH T, c)) := by
  have hR := h.2.1
  have h1 := hR.1
  have e8 := h.1.1.2.2.2.2.1
  refine W_X9_paintNext (Q := QV T _) ?_
  rw [e8]
  refine ⟨by omega, fun h => absurd h (by omega), fun _ => ?_⟩
  refine lpI (E := fun i (s : Cm) => cev 95 5 19 [vR 19, vI p, vI (R 4 + 1), vI i, vU] [] (SH T, s)) (fun i s => (0 ≤ i ∧ i ≤ 12) ∧ Off [7, 14, 15, 16, 17] [] c s ∧ CS s (tR F R p i)) 12 ?_ ?_ 0 c ⟨by omega, Off.rfl, ?_⟩
  · intro i s hi hI ih
    have hRi := tR_rng (F := F) (p := p) (i := i) hR h4 (by omega)
    have o : ∀ j, (j < 24 + 12 * R 4 ∨ 216 ≤ j) → tR F R p i j = R j := fun j hj => tR_out (by omega)
    have hLs : CL T s F := h.2.2.off hI.2.1 rfl
    refine W_X9_paintNext_19 ⟨fun _ => ?_, fun h => absurd hi h⟩
    refine (c_looksOf hI.2.2 hRi hLs (x := i) (y := R 4 + 1) (by omega) (by omega)).mono fun r c2 h2 => ?_
    have hs2 : CS c2 (tR F R p i) := hI.2.2.off h2.2 rfl
    rw [h2.1, lk_congr (R := R) (by omega) (fun j hj => o j (by omega)), hs2.1.2.2.2.2.1, o 4 (by omega)]
    refine ⟨by omega, ?_⟩
    rw [hs2.2.2.2.2.1 (R 4 * 12 + i) (by omega) (by omega), o _ (by omega)]
    have t9 := hR.tone (l := R 4) (x := i) (by omega) (by omega)
    rw [show 12 + 12 * R 4 + i = 12 + (R 4 * 12 + i) from by omega] at t9
    have lb := lk_bd (F := F) (x := i) (y := R 4 + 1) hR
    refine QI.of_eq (c_brushed hs2 hRi (by rw [o 0 (by omega)]; exact hp) (by omega) t9 lb) ⟨by omega, ih _ ⟨by omega, (hI.2.1.trans (h2.2.mono rfl rfl)).wr rfl, ?_⟩⟩
    have eb : brs (tR F R p i) p i (R (12 + (R 4 * 12 + i))) (lk F R i (R 4 + 1)) = brs R p i (R (12 + (R 4 * 12 + i))) (lk F R i (R 4 + 1)) := by
      unfold brs
      rw [o _ (by omega), o _ (by omega)]
    rw [eb]
    have o' : ∀ j, (j < 24 + 12 * R 4 ∨ 216 ≤ j) → tR F R p (i + 1) j = R j := fun j hj => tR_out (by omega)
    have e' : ∀ j, (j < 24 + 12 * R 4 ∨ 216 ≤ j) → tR F R p (i + 1) j = tR F R p i j := fun j hj => (o' j hj).trans (o j hj).symm
    obtain ⟨⟨a0, a2, a5, a7, a8, a11, a13, t0, t1, t2, t3, t4⟩, hf, hm, hb, ht, hp', hq⟩ := hs2
    have uc : ∀ q, q ≠ 7 → up c2 7 ((R 4 + 1) * 12 + i) (brs R p i (R (12 + (R 4 * 12 + i))) (lk F R i (R 4 + 1))) q = c2 q := fun q hq => up_cell hq
    unfold CS
    rw [uc 1 (by decide), uc 2 (by decide), uc 3 (by decide), uc 4 (by decide), uc 6 (by decide), uc 8 (by decide), uc 9 (by decide), e' 0 (by omega), e' 1 (by omega), e' 2 (by omega), e' 3 (by omega), e' 4 (by omega), e' 5 (by omega), e' 6 (by omega), e' 7 (by omega), e' 8 (by omega), e' 9 (by omega), e' 10 (by omega), e' 11 (by omega)]
    refine ⟨⟨a0, a2, a5, a7, a8, a11, a13, t0, t1, t2, t3, t4⟩, fun k a b => ?_, fun k a b => ?_, fun k a b => ?_, fun k a b => ?_, fun k a b => ?_, fun k a b => ?_⟩
    · rw [e' _ (by omega)]; exact hf k a b
    · rw [e' _ (by omega)]; exact hm k a b
    · rw [e' _ (by omega)]; exact hb k a b
    · rw [up_at]
      by_cases e : k = (R 4 + 1) * 12 + i
      · rw [if_pos e]
        unfold tR
        rw [if_pos (by omega), show 12 + k - (24 + 12 * R 4) = i from by omega, show 12 + k - 12 = 12 + (R 4 * 12 + i) from by omega]
      · rw [if_neg e, ht k a b]
        unfold tR
        by_cases e2 : 24 + 12 * R 4 ≤ 12 + k ∧ 12 + k < 24 + 12 * R 4 + i
        · rw [if_pos e2, if_pos (by omega)]
        · rw [if_neg e2, if_neg (by omega)]
    · rw [e' _ (by omega)]; exact hp' k a b
    · rw [e' _ (by omega)]; exact hq k a b
  · intro i s hi hI
    have : i = 12 := by omega
    subst this
    have o : ∀ j, (j < 24 + 12 * R 4 ∨ 216 ≤ j) → tR F R p 12 j = R j := fun j hj => tR_out (by omega)
    refine W_X9_paintNext_19 ⟨fun h => absurd h (by omega), fun _ => ⟨by omega, QV.ret ⟨?_, ?_, ?_, ?_⟩⟩⟩
    · obtain ⟨⟨a0, a2, a5, a7, a8, a11, a13, t0, t1, t2, t3, t4⟩, hf, hm, hb, ht, hp', hq⟩ := hI.2.2
      have uc : ∀ q, q ≠ 1 → q ≠ 6 → up (up s 6 (R 4 + 1) p) 1 8 (R 4 + 1) q = s q := fun q h1 h2 => (up_cell h1).trans (up_cell h2)
      have u1 : ∀ j, j ≠ 8 → up (up s 6 (R 4 + 1) p) 1 8 (R 4 + 1) 1 j = s 1 j := fun j hj => (up_ne hj).trans (congrFun (up_cell (by decide)) j)
      have ep : ∀ j, j ≠ 4 → j ≠ 217 + R 4 → pRw F R p j = tR F R p 12 j := fun j h1 h2 => by unfold pRw; rw [if_neg h1, if_neg h2]
      unfold CS
      rw [u1 0 (by decide), u1 2 (by decide), u1 5 (by decide), u1 7 (by decide), u1 11 (by decide), u1 13 (by decide), uc 2 (by decide) (by decide), uc 3 (by decide) (by decide), uc 4 (by decide) (by decide), uc 7 (by decide) (by decide), uc 8 (by decide) (by decide), uc 9 (by decide) (by decide), ep 0 (by omega) (by omega), ep 1 (by omega) (by omega), ep 2 (by omega) (by omega), ep 3 (by omega) (by omega), ep 5 (by omega) (by omega), ep 6 (by omega) (by omega), ep 7 (by omega) (by omega), ep 8 (by omega) (by omega), ep 9 (by omega) (by omega), ep 10 (by omega) (by omega), ep 11 (by omega) (by omega)]
      refine ⟨⟨a0, a2, a5, a7, up_same, a11, a13, t0, t1, t2, t3, t4⟩, fun k a b => ?_, fun k a b => ?_, fun k a b => ?_, fun k a b => ?_, fun k a b => ?_, fun k a b => ?_⟩
      · rw [ep _ (by omega) (by omega)]; exact hf k a b
      · rw [ep _ (by omega) (by have := o 3 (by omega); omega)]; exact hm k a b
      · rw [up_cell (by decide), up_at]
        by_cases e : k = R 4 + 1
        · rw [if_pos e]
          unfold pRw
          rw [if_neg (by omega), if_pos (by omega)]
        · rw [if_neg e, ep _ (by omega) (by omega)]; exact hb k a b
      · rw [ep _ (by omega) (by omega)]; exact ht k a b
      · rw [ep _ (by omega) (by omega)]; exact hp' k a b
      · rw [ep _ (by omega) (by omega)]; exact hq k a b
    · refine (h.2.2.off hI.2.1 rfl).of ?_ ?_ ?_ fun q hq => ?_
      · rw [up_ne (by decide), up_cell (by decide)]
      · rw [up_ne (by decide), up_cell (by decide)]
      · rw [up_cell (by decide), up_cell (by decide)]
      · rw [up_cell (by omega), up_cell (by omega)]
    · exact ((hI.2.1.mono rfl rfl).wr rfl).wr rfl
    · intro j hj
      rw [up_ne hj, up_cell (by decide), hI.2.1.cell rfl]
  · have : tR F R p 0 = R := by
      funext j
      exact tR_out (by omega)
    rw [this]
    exact h.1
