/-! the reference goes through rows -/
def Pk (F : List Clz) (R : Int → Int) (row : Int → Int) (k : Int) : Int → Int := foldI (fun i P => pnt R (row i) (fun x => lk F R x (R 4 + (i + 1))) P) (fun x => R (12 + 12 * R 4 + x)) k
def Ak (F : List Clz) (R : Int → Int) (row : Int → Int) (k : Int) : Int := sm (fun i => ask F R (row i) (R 4 + (i + 1))) k
def okk (F : List Clz) (R : Int → Int) (by' : Int) (row : Int → Int) (k : Int) : Bool := allI (fun i => good F R by' (i + 1) (Pk F R row (i + 1)) (Ak F R row (i + 1))) k
def dfr (F : List Clz) (R : Int → Int) (by' n : Int) : Nat → Int → (Int → Int) → Bst → Bst
  | 0, _, row, B => if okk F R by' row n = true then wgh by' (ulk (Pk F R row n) (fun x => lk F R x (R 4 + n))) (Ak F R row n) row B else B
  | m + 1, k, row, B => foldI (fun p B => if may F R row p k = true then dfr F R by' n m (k + 1) (udD row k p) B else B) B (R 0)
theorem Pk_succ {F : List Clz} {R : Int → Int} {row : Int → Int} {k : Int} (hk : 0 ≤ k) : Pk F R row (k + 1) = pnt R (row k) (fun x => lk F R x (R 4 + (k + 1))) (Pk F R row k) := foldI_succ hk
theorem Ak_succ {F : List Clz} {R : Int → Int} {row : Int → Int} {k : Int} (hk : 0 ≤ k) : Ak F R row (k + 1) = Ak F R row k + ask F R (row k) (R 4 + (k + 1)) := sm_succ hk
theorem okk_succ {F : List Clz} {R : Int → Int} {by' : Int} {row : Int → Int} {k : Int} (hk : 0 ≤ k) : okk F R by' row (k + 1) = (okk F R by' row k && good F R by' (k + 1) (Pk F R row (k + 1)) (Ak F R row (k + 1))) := foldI_succ hk
theorem Pk_cg {F : List Clz} {R : Int → Int} {row row' : Int → Int} {k : Int} (h : ∀ i, 0 ≤ i → i < k → row i = row' i) : Pk F R row k = Pk F R row' k := foldI_congr fun i P a b => by rw [h i a b]
theorem Ak_cg {F : List Clz} {R : Int → Int} {row row' : Int → Int} {k : Int} (h : ∀ i, 0 ≤ i → i < k → row i = row' i) : Ak F R row k = Ak F R row' k := sm_congr fun i a b => by rw [h i a b]
theorem okk_cg {F : List Clz} {R : Int → Int} {by' : Int} {row row' : Int → Int} {k : Int} (h : ∀ i, 0 ≤ i → i < k → row i = row' i) : okk F R by' row k = okk F R by' row' k := foldI_congr fun i y a b => by
  show (y && good F R by' (i + 1) (Pk F R row (i + 1)) (Ak F R row (i + 1))) = (y && good F R by' (i + 1) (Pk F R row' (i + 1)) (Ak F R row' (i + 1)))
  rw [Pk_cg (row := row) (row' := row') (fun j a2 b2 => h j a2 (by omega)), Ak_cg (row := row) (row' := row') (fun j a2 b2 => h j a2 (by omega))]
theorem ud_lt {row : Int → Int} {k p i : Int} (h : i < k) : udD row k p i = row i := by unfold udD; rw [if_neg (by omega)]
theorem ud_at {row : Int → Int} {k p : Int} : udD row k p k = p := by unfold udD; rw [if_pos rfl]
theorem Pk_bd {F : List Clz} {R : Int → Int} {row : Int → Int} {k : Int} (hR : RNG R) (hk : 0 ≤ k) : ∀ x, 0 ≤ x → x < 12 → 0 ≤ Pk F R row k x ∧ Pk F R row k x ≤ 9 := by
  have h1 := hR.1
  refine foldI_ind (fun _ (P : Int → Int) => ∀ x, 0 ≤ x → x < 12 → 0 ≤ P x ∧ P x ≤ 9) (fun x a b => hR.tone (by omega) ⟨a, b⟩) (fun i P _ _ _ x _ _ => pnt_bd) hk
theorem Ak_bd {F : List Clz} {R : Int → Int} {row : Int → Int} {k : Int} (hk : 0 ≤ k) : 0 ≤ Ak F R row k ∧ Ak F R row k ≤ 999 * k := sm_bd hk (by omega) fun i _ _ => ask_bd
/-- without looking whether it is good on the way: the same in the end -/
theorem dfr_dfs {F : List Clz} {R : Int → Int} {by' n : Int} (hR : 0 ≤ R 0) : ∀ (m : Nat) (k : Int) (row : Int → Int) (B : Bst), k + m = n → 0 ≤ k → dfr F R by' n m k row B = if okk F R by' row k = true then dfs F R by' n m k row (Pk F R row k) (Ak F R row k) B else B := by
  intro m
  induction m with
  | zero =>
    intro k row B hk hk0
    have : k = n := by omega
    subst this
    rfl
  | succ m ih =>
    intro k row B hk hk0
    have step : ∀ p C, dfr F R by' n m (k + 1) (udD row k p) C = if okk F R by' row k = true then (if good F R by' (k + 1) (pnt R p (fun x => lk F R x (R 4 + (k + 1))) (Pk F R row k)) (Ak F R row k + ask F R p (R 4 + (k + 1))) = true then dfs F R by' n m (k + 1) (udD row k p) (pnt R p (fun x => lk F R x (R 4 + (k + 1))) (Pk F R row k)) (Ak F R row k + ask F R p (R 4 + (k + 1))) C else C) else C := by
      intro p C
      have cg : ∀ i, 0 ≤ i → i < k → udD row k p i = row i := fun i _ b => ud_lt b
      rw [ih (k + 1) (udD row k p) C (by omega) (by omega), okk_succ hk0, Pk_succ hk0, Ak_succ hk0, ud_at, okk_cg cg, Pk_cg cg, Ak_cg cg]
      cases okk F R by' row k with
      | true => rw [if_pos rfl, Bool.true_and]
      | false => rw [Bool.false_and, if_neg (by decide), if_neg (by decide)]
    show foldI _ B (R 0) = _
    by_cases ho : okk F R by' row k = true
    · rw [if_pos ho]
      show _ = foldI _ B (R 0)
      refine foldI_congr fun p C _ _ => ?_
      rw [step p C, if_pos ho]
    · rw [if_neg ho]
      refine foldI_ind (fun _ C => C = B) rfl (fun p C _ _ hC => ?_) hR
      rw [step p C, if_neg ho, hC]
      split <;> rfl
def RPn (c : Cm) (F : List Clz) (R : Int → Int) (n : Int) : Prop := (∀ j, 0 ≤ j → j ≤ n → LK c F R (R 4 + j)) ∧ ∀ j p, 0 ≤ j → j < n → 0 ≤ p → p < R 0 → c 99 (5 * j + p) = ask F R p (R 4 + (j + 1)) ∧ c 100 (5 * j + p) = b01 (brp F R p (R 4 + (j + 1)) = true)
def RB (c : Cm) (n : Int) (B : Bst) : Prop := (c 77 46 = B.1 ∧ (B.1 ≠ 0 → c 77 44 = B.2.1 ∧ c 77 45 = B.2.2.1 ∧ ∀ i, 0 ≤ i → i < n → c 98 i = B.2.2.2 i)) ∧ (0 ≤ c 77 44 ∧ c 77 44 ≤ 200) ∧ (0 ≤ c 77 45 ∧ c 77 45 ≤ 10000)
theorem RPn.off {L : List Nat} {G : List Int} {c c' : Cm} {F : List Clz} {R : Int → Int} {n : Int} (h : RPn c F R n) (o : Off L G c c') (hl : (L.contains 95 || L.contains 99 || L.contains 100) = false) : RPn c' F R n := by
  have h2 := Bool.or_eq_false_iff.mp hl
  have h3 := Bool.or_eq_false_iff.mp h2.1
  refine ⟨fun j a b => (h.1 j a b).off o h3.1, ?_⟩
  rw [o.cell (q := 99) (by rw [h3.2]; rfl), o.cell (q := 100) (by rw [h2.2]; rfl)]
  exact h.2
theorem RB.off {L : List Nat} {G : List Int} {c c' : Cm} {n : Int} {B : Bst} (h : RB c n B) (o : Off L G c c') (hl : (L.contains 98 || L.contains 77 || G.contains 44 || G.contains 45 || G.contains 46) = false) : RB c' n B := by
  have h2 := Bool.or_eq_false_iff.mp hl
  have h3 := Bool.or_eq_false_iff.mp h2.1
  have h4 := Bool.or_eq_false_iff.mp h3.1
  have h5 := Bool.or_eq_false_iff.mp h4.1
  unfold RB
  rw [o.cell (q := 98) (by rw [h5.1]; rfl), o.fld (j := 44) (by rw [h5.2, h4.2]; rfl), o.fld (j := 45) (by rw [h5.2, h3.2]; rfl), o.fld (j := 46) (by rw [h5.2, h2.2]; rfl)]
  exact h
theorem r_restsInRow {T : List Shp} {c : Cm} {F : List Clz} {p k : Int} {row : Int → Int} (h : RWd c F) (hk : 0 ≤ k ∧ k < 5) (hr : ∀ i, 0 ≤ i → i < k → c 97 i = row i) : ccal 277 [vR 78, vI p, vI k] (SH T, c) = some (some (vI (b01 (rrw (c 79) row p k = true))), (SH T, c)) := by
  have h1 := h.1.1
  generalize hZ : (some (some (vI (b01 (rrw (c 79) row p k = true))), (SH T, c)) : Res) = Z
  refine W_X12_restsInRow (Q := fun Y => Y = Z) ⟨by omega, ?_⟩
  refine lpI (Q := fun Y => Y = Z) (E := fun i (r : Int) => cev 277 2 15 [vR 78, vI p, vI k, vI (c 79 4 + 1 + k), vI r, vI (i + 1)] [] (SH T, c)) (fun i r => (0 ≤ i ∧ i ≤ c 79 11) ∧ r = b01 (anyI (fun i => if 0 ≤ k - (i + 1) then decide (row (k - (i + 1)) = p) else decide (1 ≤ c 79 4 + 1 + k - (i + 1) ∧ c 79 4 + 1 + k - (i + 1) ≤ c 79 4 ∧ c 79 (216 + (c 79 4 + 1 + k - (i + 1))) = p)) i = true)) (c 79 11) ?_ ?_ 0 0 ⟨by omega, (b01_f (show ¬ (false = true) by decide)).symm⟩
  · intro i r hi hI ih
    have as := anyI_succ (p := fun i => if 0 ≤ k - (i + 1) then decide (row (k - (i + 1)) = p) else decide (1 ≤ c 79 4 + 1 + k - (i + 1) ∧ c 79 4 + 1 + k - (i + 1) ≤ c 79 4 ∧ c 79 (216 + (c 79 4 + 1 + k - (i + 1))) = p)) (n := i) hI.1.1
    generalize anyI (fun i => if 0 ≤ k - (i + 1) then decide (row (k - (i + 1)) = p) else decide (1 ≤ c 79 4 + 1 + k - (i + 1) ∧ c 79 4 + 1 + k - (i + 1) ≤ c 79 4 ∧ c 79 (216 + (c 79 4 + 1 + k - (i + 1))) = p)) i = s at *
    refine W_X12_restsInRow_15 (Q := fun Y => Y = Z) ⟨fun h => absurd h (by omega), fun _ => ⟨fun h2 => ?_, fun h2 => ⟨by omega, ih 1 ⟨by omega, ?_⟩⟩⟩⟩
    · rw [hI.2] at h2
      have hs := b01_e0 h2
      subst hs
      rw [Bool.false_or] at as
      refine ⟨by omega, fun h3 => ⟨by omega, fun h4 => ⟨by omega, fun h5 => ⟨by omega, ih 1 ⟨by omega, ?_⟩⟩, fun h5 => ⟨by omega, ih 0 ⟨by omega, ?_⟩⟩⟩, fun h4 => ⟨by omega, ih 0 ⟨by omega, ?_⟩⟩⟩, fun h3 => ⟨by omega, ?_⟩⟩
      · rw [as, if_neg (by omega)]
        rw [show 216 + (c 79 4 + 1 + k) - (i + 1) = 216 + (c 79 4 + 1 + k - (i + 1)) from by omega] at h5
        exact (b01_t (decide_eq_true ⟨h4.1, h4.2, h5⟩)).symm
      · rw [as, if_neg (by omega)]
        rw [show 216 + (c 79 4 + 1 + k) - (i + 1) = 216 + (c 79 4 + 1 + k - (i + 1)) from by omega] at h5
        exact (b01_f (fun q => h5 (of_decide_eq_true q).2.2)).symm
      · rw [as, if_neg (by omega)]
        exact (b01_f (fun q => h4 ⟨(of_decide_eq_true q).1, (of_decide_eq_true q).2.1⟩)).symm
      · rw [hr _ (by omega) (by omega)]
        refine ⟨fun h5 => ⟨by omega, ih 1 ⟨by omega, ?_⟩⟩, fun h5 => ⟨by omega, ih 0 ⟨by omega, ?_⟩⟩⟩
        · rw [as, if_pos (by omega)]
          exact (b01_t (decide_eq_true h5)).symm
        · rw [as, if_pos (by omega)]
          exact (b01_f (fun q => h5 (of_decide_eq_true q))).symm
    · rw [hI.2] at h2
      rw [as, b01_ne h2, Bool.true_or]
      exact (b01_t rfl).symm
  · intro i r hi hI
    have : i = c 79 11 := by omega
    subst this
    refine W_X12_restsInRow_15 (Q := fun Y => Y = Z) ⟨fun _ => ⟨by rw [hI.2]; exact b01_or, ?_⟩, fun h => absurd h (by omega)⟩
    show _ = Z
    rw [← hZ, hI.2]
    rfl
theorem r_pweigh {T : List Shp} {c : Cm} {F : List Clz} {by' n : Int} {row : Int → Int} {B : Bst} (h : RWd c F) (hL : RPn c F (c 79) n) (hn : 0 ≤ n ∧ n ≤ 5) (hP : ∀ j, 0 ≤ j → j ≤ n → PP c j (Pk F (c 79) row j)) (hr : ∀ i, 0 ≤ i → i < n → c 97 i = row i ∧ 0 ≤ row i ∧ row i < c 79 0) (hB : RB c n B) (hb : 0 ≤ B.1 ∧ B.1 ≤ 100000) : QV T (fun c' => RB c' n (dfr F (c 79) by' n 0 n row B) ∧ Off [92, 94, 98] [30, 34, 35, 36, 44, 45, 46] c c') (ccal 279 [vR 78, vI by', vI n] (SH T, c)) := by
  have hR := h.1
  have h1 := hR.1
  have ib := inc_bd hR (l := c 79 4) (by omega)
  have mb := mny_bd (F := F) (R := c 79) (v := c 79 10 * c 79 4) (b := c 79 4) (by omega)
  have me : mny F (c 79) (c 79 4) = foldI (fun i m => m - ask F (c 79) (c 79 (216 + (i + 1))) (i + 1)) (c 79 10 * c 79 4) (c 79 4) := rfl
  refine W_X12_weigh (Q := QV T _) ⟨by omega, ?_⟩
  refine QI.of_eq (r_unlikePaper hR (by omega) (by omega) (hP n hn.1 (Int.le_refl _)) (Pk_bd hR hn.1) (hL.1 n hn.1 (Int.le_refl _))) ?_
  refine (r_moneyBehind h (l := c 79 4) (by omega)).mono fun m1 c1 h2 => ?_
  rw [h2.1]
  have ub := ulk_bd (P := Pk F (c 79) row n) (L := fun x => lk F (c 79) x (c 79 4 + n)) (b := 12) (by omega) (Pk_bd hR hn.1) (fun z _ _ => lk_bd hR)
  have ue : ulk (Pk F (c 79) row n) (fun x => lk F (c 79) x (c 79 4 + n)) = foldI (fun x n' => n' + abz (Pk F (c 79) row n x - lk F (c 79) x (c 79 4 + n))) 0 12 := rfl
  rw [← ue] at ub
  generalize hU : ulk (Pk F (c 79) row n) (fun x => lk F (c 79) x (c 79 4 + n)) = U at *
  have B1 := hB.off h2.2 rfl
  have An := Ak_bd (F := F) (R := c 79) (row := row) (k := n) hn.1
  have z : QV T (fun c' => RB c' n (dfr F (c 79) by' n 0 n row B) ∧ Off [92, 94, 98] [30, 34, 35, 36, 44, 45, 46] c c') (cev 279 8 31 [vR 78, vI by', vI n, vI U, vI (Ak F (c 79) row 0), vI (mny F (c 79) (c 79 4) + c 79 10 * 0 - Ak F (c 79) row 0), vI (b01 (okk F (c 79) by' row 0 = true)), vI 0, vU, vU, vU] [] (SH T, c1)) := by
    refine lpI (E := fun k (s : Cm) => cev 279 8 31 [vR 78, vI by', vI n, vI U, vI (Ak F (c 79) row k), vI (mny F (c 79) (c 79 4) + c 79 10 * k - Ak F (c 79) row k), vI (b01 (okk F (c 79) by' row k = true)), vI k, vU, vU, vU] [] (SH T, s)) (fun k s => (0 ≤ k ∧ k ≤ n) ∧ Off [92, 94] [30, 34, 35, 36] c s) n ?_ ?_ 0 c1 ⟨⟨Int.le_refl _, hn.1⟩, h2.2⟩
    · intro k s hk hI ih
      have es := hI.2.row rfl
      have a1 := Ak_bd (F := F) (R := c 79) (row := row) (k := k) hI.1.1
      have a2 := Ak_succ (F := F) (R := c 79) (row := row) (k := k) hI.1.1
      have oks := okk_succ (F := F) (R := c 79) (by' := by') (row := row) (k := k) hI.1.1
      have ak := ask_bd (F := F) (R := c 79) (x := row k) (y := c 79 4 + (k + 1))
      have ibk := inc_bd hR (l := k) (by omega)
      have ibm : c 79 10 * (k + 1) = c 79 10 * k + c 79 10 := by rw [Int.mul_add, Int.mul_one]
      have rk := hr k hI.1.1 hk
      have e97 : s 97 = c 97 := hI.2.cell rfl
      have e99 : s 99 = c 99 := hI.2.cell rfl
      have nxt : ∀ (v : Int) (u : Cm), v = b01 (okk F (c 79) by' row (k + 1) = true) → Off [92, 94] [30, 34, 35, 36] c u → QV T (fun c' => RB c' n (dfr F (c 79) by' n 0 n row B) ∧ Off [92, 94, 98] [30, 34, 35, 36, 44, 45, 46] c c') (cev 279 8 31 [vR 78, vI by', vI n, vI U, vI (Ak F (c 79) row k + ask F (c 79) (row k) (c 79 4 + (k + 1))), vI (mny F (c 79) (c 79 4) + c 79 10 * k - Ak F (c 79) row k + (c 79 10 - ask F (c 79) (row k) (c 79 4 + (k + 1)))), vI v, vI (k + 1), vU, vU, vU] [] (SH T, u)) := by
        intro v u hv ou
        have := ih u ⟨by omega, ou⟩
        try dsimp only at this
        rw [← hv, a2, show mny F (c 79) (c 79 4) + c 79 10 * (k + 1) - (Ak F (c 79) row k + ask F (c 79) (row k) (c 79 4 + (k + 1))) = mny F (c 79) (c 79 4) + c 79 10 * k - Ak F (c 79) row k + (c 79 10 - ask F (c 79) (row k) (c 79 4 + (k + 1))) from by omega] at this
        exact this
      refine W_X12_weigh_31 ⟨fun _ => ?_, fun h => absurd hk h⟩
      rw [es, e97, rk.1, e99, (hL.2 k (row k) hI.1.1 hk rk.2.1 rk.2.2).1]
      refine ⟨by omega, fun h3 => ⟨by omega, nxt 0 s ?_ hI.2⟩, fun h3 => ?_⟩
      · rw [oks, b01_e0 h3, Bool.false_and]
        exact (b01_f (by decide)).symm
      have okt := b01_ne h3
      rw [okt, Bool.true_and] at oks
      have b104 : (by' = 2 → 0 ≤ mny F (c 79) (c 79 4) + c 79 10 * k - Ak F (c 79) row k + (c 79 10 - ask F (c 79) (row k) (c 79 4 + (k + 1)))) → QV T (fun c' => RB c' n (dfr F (c 79) by' n 0 n row B) ∧ Off [92, 94, 98] [30, 34, 35, 36, 44, 45, 46] c c') (cev 279 8 104 [vR 78, vI by', vI n, vI U, vI (Ak F (c 79) row k + ask F (c 79) (row k) (c 79 4 + (k + 1))), vI (mny F (c 79) (c 79 4) + c 79 10 * k - Ak F (c 79) row k + (c 79 10 - ask F (c 79) (row k) (c 79 4 + (k + 1)))), vU, vI k, vU, vU, vU] [] (SH T, s)) := by
        intro hm
        refine W_X12_weigh_104 ?_
        rw [es]
        refine ⟨fun h4 => ⟨by omega, ?_⟩, fun h4 => ⟨by omega, nxt 1 s ?_ hI.2⟩⟩
        · have lk1 := hL.1 (k + 1) (by omega) (by omega)
          rw [show c 79 4 + k + 1 = c 79 4 + (k + 1) from by omega]
          refine (r_tooFar (h.off hI.2 rfl) (a := k + 1) (y := c 79 4 + (k + 1)) (by omega) (by omega) ((hP (k + 1) (by omega) (by omega)).off hI.2 rfl) (Pk_bd hR (by omega)) (by rw [es]; exact lk1.off hI.2 rfl)).mono fun r c5 h5 => ?_
          rw [es] at h5
          have gd : good F (c 79) by' (k + 1) (Pk F (c 79) row (k + 1)) (Ak F (c 79) row (k + 1)) = decide (r = -1) := by
            unfold good
            rw [if_neg (by omega), if_pos h4, h5.1]
          refine ⟨fun h6 => ⟨by omega, nxt 1 c5 ?_ (hI.2.trans h5.2)⟩, fun h6 => ⟨by omega, nxt 0 c5 ?_ (hI.2.trans h5.2)⟩⟩
          · rw [oks, gd]; exact (b01_t (decide_eq_true h6)).symm
          · rw [oks, gd]; exact (b01_f (fun q => h6 (of_decide_eq_true q))).symm
        · rw [oks]
          refine (b01_t ?_).symm
          unfold good
          by_cases e2 : by' = 2
          · rw [if_pos e2]
            have := hm e2
            exact decide_eq_true (by omega)
          · rw [if_neg e2, if_neg h4]
      refine ⟨fun h4 => ⟨fun h5 => ⟨by omega, nxt 0 s ?_ hI.2⟩, fun h5 => b104 (fun _ => by omega)⟩, fun h4 => b104 (fun e => absurd e h4)⟩
      rw [oks]
      refine (b01_f ?_).symm
      unfold good
      rw [if_pos h4]
      exact fun q => absurd (of_decide_eq_true q) (by omega)
    · intro k s hk hI
      have : k = n := by omega
      subst this
      have os : Off [92, 94, 98] [30, 34, 35, 36, 44, 45, 46] c s := hI.2.mono rfl rfl
      have Bs := hB.off hI.2 rfl
      have e97 : s 97 = c 97 := hI.2.cell rfl
      have ed : dfr F (c 79) by' k 0 k row B = if okk F (c 79) by' row k = true then wgh by' U (Ak F (c 79) row k) row B else B := by
        show (if okk F (c 79) by' row k = true then wgh by' (ulk (Pk F (c 79) row k) (fun x => lk F (c 79) x (c 79 4 + k))) (Ak F (c 79) row k) row B else B) = _
        rw [hU]
      rw [ed]
      generalize Ak F (c 79) row k = A at *
      refine W_X12_weigh_31 ⟨fun h => absurd h (by omega), fun _ => ⟨fun h3 => QV.ret ⟨?_, os⟩, fun h3 => ?_⟩⟩
      · rw [if_neg (Bool.eq_false_iff.mp (b01_e0 h3))]
        exact Bs
      rw [if_pos (b01_ne h3)]
      have bb := Bs.2
      have tail : ∀ u : Cm, u 77 46 = 0 ∨ (0 < B.1 ∧ u 77 46 = B.1) → (u 77 46 = 0 → u 77 44 = U ∧ u 77 45 = A ∧ (∀ i, 0 ≤ i → i < k → u 98 i = row i) ∧ wgh by' U A row B = (1, U, A, row)) → (u 77 46 ≠ 0 → u 77 44 = B.2.1 ∧ u 77 45 = B.2.2.1 ∧ (∀ i, 0 ≤ i → i < k → u 98 i = B.2.2.2 i) ∧ (B.1 ≠ 0 ∧ btr by' U A B = false)) → Off [92, 94, 98] [30, 34, 35, 36, 44, 45, 46] c u → (0 ≤ u 77 44 ∧ u 77 44 ≤ 200) → (0 ≤ u 77 45 ∧ u 77 45 ≤ 10000) → QV T (fun c' => RB c' k (wgh by' U A row B) ∧ Off [92, 94, 98] [30, 34, 35, 36, 44, 45, 46] c c') (cev 279 8 274 [vR 78, vU, vU, vI U, vI A, vU, vU, vU, vU, vU, vU] [] (SH T, u)) := by
        intro u u0 u1 u2 ou b44 b45
        refine W_X12_weigh_274 ?_
        rcases Decidable.em (u 77 46 = 0) with e | e
        · obtain ⟨v1, v2, v3, v4⟩ := u1 e
          refine ⟨fun _ => ⟨fun _ => ⟨by omega, QV.ret ⟨?_, ou.wr rfl⟩⟩, fun q => absurd v2.symm q⟩, fun q => absurd v1.symm q⟩
          rw [v4, e]
          refine ⟨⟨up_same, fun _ => ⟨?_, ?_, fun i a b => ?_⟩⟩, ?_, ?_⟩
          · rw [up_ne (by decide)]; exact v1
          · rw [up_ne (by decide)]; exact v2
          · rw [up_cell (by decide)]; exact v3 i a b
          · rw [up_ne (by decide)]; exact b44
          · rw [up_ne (by decide)]; exact b45
        · obtain ⟨v1, v2, v3, v4, v5⟩ := u2 e
          have e46 : u 77 46 = B.1 := by omega
          have nb : ¬ (B.1 = 0 ∨ btr by' U A B = true) := by
            rintro (q | q)
            · exact v4 q
            · rw [v5] at q; exact absurd q (by decide)
          have same' : ¬ (0 < B.1 ∧ U = B.2.1 ∧ A = B.2.2.1) → wgh by' U A row B = B := by
            intro q
            unfold wgh
            rw [if_neg q, if_neg nb]
          rw [v1, v2, e46]
          refine ⟨fun q1 => ⟨fun q2 => ⟨by omega, QV.ret ⟨?_, ou.wr rfl⟩⟩, fun q2 => ⟨by omega, QV.ret ⟨?_, ou.wr rfl⟩⟩⟩, fun q1 => ⟨by omega, QV.ret ⟨?_, ou.wr rfl⟩⟩⟩
          · have : wgh by' U A row B = (B.1 + 1, B.2) := by unfold wgh; rw [if_pos ⟨by omega, q1, q2⟩]
            rw [this]
            refine ⟨⟨up_same, fun _ => ⟨?_, ?_, fun i a b => ?_⟩⟩, ?_, ?_⟩
            · rw [up_ne (by decide)]; exact v1
            · rw [up_ne (by decide)]; exact v2
            · rw [up_cell (by decide)]; exact v3 i a b
            · rw [up_ne (by decide)]; exact b44
            · rw [up_ne (by decide)]; exact b45
          · rw [same' (fun q => q2 q.2.2), Int.add_zero]
            refine ⟨⟨up_same, fun _ => ⟨?_, ?_, fun i a b => ?_⟩⟩, ?_, ?_⟩
            · rw [up_ne (by decide)]; exact v1
            · rw [up_ne (by decide)]; exact v2
            · rw [up_cell (by decide)]; exact v3 i a b
            · rw [up_ne (by decide)]; exact b44
            · rw [up_ne (by decide)]; exact b45
          · rw [same' (fun q => q1 q.2.1), Int.add_zero]
            refine ⟨⟨up_same, fun _ => ⟨?_, ?_, fun i a b => ?_⟩⟩, ?_, ?_⟩
            · rw [up_ne (by decide)]; exact v1
            · rw [up_ne (by decide)]; exact v2
            · rw [up_cell (by decide)]; exact v3 i a b
            · rw [up_ne (by decide)]; exact b44
            · rw [up_ne (by decide)]; exact b45
      have b222t : ¬ (0 < B.1 ∧ U = B.2.1 ∧ A = B.2.2.1) → (B.1 = 0 ∨ btr by' U A B = true) → QV T (fun c' => RB c' k (wgh by' U A row B) ∧ Off [92, 94, 98] [30, 34, 35, 36, 44, 45, 46] c c') (cev 279 8 222 [vR 78, vU, vI k, vI U, vI A, vU, vU, vU, vU, vU, vU] [vI 1] (SH T, s)) := by
        intro q1 q2
        have ew : wgh by' U A row B = (1, U, A, row) := by unfold wgh; rw [if_neg q1, if_pos q2]
        refine W_X12_weigh_222 ⟨fun h => absurd h (by decide), fun _ => ?_⟩
        refine lpI (E := fun i (u : Cm) => cev 279 8 248 [vR 78, vU, vI k, vI U, vI A, vU, vU, vU, vU, vU, vI i] [] (SH T, u)) (fun i u => (0 ≤ i ∧ i ≤ k) ∧ u 77 = up (up (up s 77 44 U) 77 45 A) 77 46 0 77 ∧ u 97 = c 97 ∧ (∀ j, 0 ≤ j → j < i → u 98 j = row j) ∧ Off [92, 94, 98] [30, 34, 35, 36, 44, 45, 46] c u) k ?_ ?_ 0 _ ⟨by omega, rfl, ?_, fun j a b => by omega, ((os.wr rfl).wr rfl).wr rfl⟩
        · intro i u hi hU' ihu
          obtain ⟨u0, u77, u97, u98, ou⟩ := hU'
          refine W_X12_weigh_248 ⟨fun _ => ⟨by omega, ihu _ ⟨by omega, ?_, ?_, fun j a b => ?_, ou.wr rfl⟩⟩, fun h => absurd hi h⟩
          · rw [up_cell (by decide)]; exact u77
          · rw [up_cell (by decide)]; exact u97
          · rw [up_at]
            by_cases e : j = i
            · rw [if_pos e, u97, e]; exact (hr i u0.1 hi).1
            · rw [if_neg e]; exact u98 j a (by omega)
        · intro i u hi hU'
          obtain ⟨u0, u77, u97, u98, ou⟩ := hU'
          have g46 : u 77 46 = 0 := by rw [u77, up_same]
          have g44 : u 77 44 = U := by rw [u77, up_ne (by decide), up_ne (by decide), up_same]
          have g45 : u 77 45 = A := by rw [u77, up_ne (by decide), up_same]
          refine W_X12_weigh_248 ⟨fun h => absurd h (by omega), fun _ => ?_⟩
          refine tail u (.inl g46) (fun _ => ⟨g44, g45, fun j a b => u98 j a (by omega), ew⟩) (fun q => absurd g46 q) ou (by rw [g44]; omega) (by rw [g45]; omega)
        · rw [up_cell (by decide), up_cell (by decide), up_cell (by decide)]; exact e97
      have b222f : B.1 ≠ 0 → btr by' U A B = false → QV T (fun c' => RB c' k (wgh by' U A row B) ∧ Off [92, 94, 98] [30, 34, 35, 36, 44, 45, 46] c c') (cev 279 8 222 [vR 78, vU, vI k, vI U, vI A, vU, vU, vU, vU, vU, vU] [vI 0] (SH T, s)) := by
        intro q1 q2
        refine W_X12_weigh_222 ⟨fun _ => ?_, fun h => absurd rfl h⟩
        have g := Bs.1.2 q1
        refine tail s (.inr ⟨by omega, Bs.1.1⟩) (fun q => absurd (by rw [← Bs.1.1]; exact q) q1) (fun _ => ⟨g.1, g.2.1, g.2.2, q1, q2⟩) os bb.1 bb.2
      have b193 : ∀ one two : Int, (B.1 ≠ 0 → one = (if by' = 1 then A - B.2.2.1 else U - B.2.1) ∧ two = (if by' = 1 then U - B.2.1 else A - B.2.2.1)) → QV T (fun c' => RB c' k (wgh by' U A row B) ∧ Off [92, 94, 98] [30, 34, 35, 36, 44, 45, 46] c c') (cev 279 8 193 [vR 78, vU, vI k, vI U, vI A, vU, vU, vI one, vU, vU, vU] [vI two] (SH T, s)) := by
        intro one two hot
        refine W_X12_weigh_193 ?_
        rw [Bs.1.1]
        refine ⟨fun q => b222t (fun z => by omega) (.inl q), fun q => ?_⟩
        obtain ⟨e1, e2⟩ := hot q
        have bt1 : (one < 0 ∨ (one = 0 ∧ two < 0)) → btr by' U A B = true := by
          intro z
          unfold btr
          by_cases y : by' = 1
          · rw [if_pos y] at e1 e2
            rw [if_pos y]
            exact decide_eq_true (by omega)
          · rw [if_neg y] at e1 e2
            rw [if_neg y]
            exact decide_eq_true (by omega)
        have bt0 : ¬ (one < 0 ∨ (one = 0 ∧ two < 0)) → btr by' U A B = false := by
          intro z
          unfold btr
          by_cases y : by' = 1
          · rw [if_pos y] at e1 e2
            rw [if_pos y]
            exact decide_eq_false (by omega)
          · rw [if_neg y] at e1 e2
            rw [if_neg y]
            exact decide_eq_false (by omega)
        have ne : (one < 0 ∨ (one = 0 ∧ two < 0)) → ¬ (0 < B.1 ∧ U = B.2.1 ∧ A = B.2.2.1) := by
          intro z w
          by_cases y : by' = 1
          · rw [if_pos y] at e1 e2; omega
          · rw [if_neg y] at e1 e2; omega
        refine ⟨fun z => b222t (ne (.inl z)) (.inr (bt1 (.inl z))), fun z => ⟨fun z2 => ⟨fun z3 => b222t (ne (.inr ⟨z2, z3⟩)) (.inr (bt1 (.inr ⟨z2, z3⟩))), fun z3 => b222f q (bt0 (by omega))⟩, fun z2 => b222f q (bt0 (by omega))⟩⟩
      have b170 : ∀ one : Int, (B.1 ≠ 0 → one = (if by' = 1 then A - B.2.2.1 else U - B.2.1)) → QV T (fun c' => RB c' k (wgh by' U A row B) ∧ Off [92, 94, 98] [30, 34, 35, 36, 44, 45, 46] c c') (cev 279 8 170 [vR 78, vI by', vI k, vI U, vI A, vU, vU, vU, vU, vU, vU] [vI one] (SH T, s)) := by
        intro one h1
        refine W_X12_weigh_170 ⟨fun y => ⟨by omega, b193 _ _ fun q => ⟨h1 q, ?_⟩⟩, fun y => ⟨by omega, b193 _ _ fun q => ⟨h1 q, ?_⟩⟩⟩
        · rw [if_pos y, (Bs.1.2 q).1]
        · rw [if_neg y, (Bs.1.2 q).2.1]
      refine ⟨fun y => ⟨by omega, b170 _ fun q => ?_⟩, fun y => ⟨by omega, b170 _ fun q => ?_⟩⟩
      · rw [if_pos y, (Bs.1.2 q).2.1]
      · rw [if_neg y, (Bs.1.2 q).1]
  rw [show Ak F (c 79) row 0 = 0 from rfl, show mny F (c 79) (c 79 4) + c 79 10 * 0 - 0 = mny F (c 79) (c 79 4) from by omega, show b01 (okk F (c 79) by' row 0 = true) = 1 from b01_t rfl] at z
  exact z
