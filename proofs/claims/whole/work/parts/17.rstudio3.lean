/-! sums -/
def sm (f : Int → Int) (n : Int) : Int := foldI (fun i k => k + f i) 0 n
theorem sm_succ {f : Int → Int} {n : Int} (hn : 0 ≤ n) : sm f (n + 1) = sm f n + f n := foldI_succ hn
theorem sm_congr {f g : Int → Int} {n : Int} (h : ∀ i, 0 ≤ i → i < n → f i = g i) : sm f n = sm g n := foldI_congr fun i y a b => by rw [h i a b]
theorem sm_bd {f : Int → Int} {n B : Int} (hn : 0 ≤ n) (hB : 0 ≤ B) (h : ∀ i, 0 ≤ i → i < n → 0 ≤ f i ∧ f i ≤ B) : 0 ≤ sm f n ∧ sm f n ≤ B * n := by
  refine foldI_ind (fun i k => 0 ≤ k ∧ k ≤ B * i) (by omega) ?_ hn
  intro i k h1 h2 h3
  have := h i h1 h2
  rw [Int.mul_add, Int.mul_one]
  omega
theorem sm_add {f g : Int → Int} {n : Int} (hn : 0 ≤ n) : sm (fun i => f i + g i) n = sm f n + sm g n := by
  have key : ∀ m : Nat, sm (fun i => f i + g i) m = sm f m + sm g m := by
    intro m
    induction m with
    | zero => rfl
    | succ m ih =>
      rw [show ((m + 1 : Nat) : Int) = (m : Int) + 1 from by omega, sm_succ (by omega), sm_succ (by omega), sm_succ (by omega), ih]
      omega
  have := key n.toNat
  rwa [Int.toNat_of_nonneg hn] at this
theorem sm_zero {n : Int} (hn : 0 ≤ n) : sm (fun _ => 0) n = 0 := foldI_ind (fun _ k => k = 0) rfl (fun i k _ _ h => by rw [h]; rfl) hn
theorem sm_swap {f : Int → Int → Int} {n m : Int} (hn : 0 ≤ n) (hm : 0 ≤ m) : sm (fun q => sm (fun p => f p q) n) m = sm (fun p => sm (fun q => f p q) m) n := by
  have key : ∀ k : Nat, sm (fun q => sm (fun p => f p q) n) k = sm (fun p => sm (fun q => f p q) k) n := by
    intro k
    induction k with
    | zero => exact (sm_zero hn).symm
    | succ k ih =>
      rw [show ((k + 1 : Nat) : Int) = (k : Int) + 1 from by omega, sm_succ (by omega), ih, ← sm_add hn]
      exact sm_congr fun i _ _ => (sm_succ (by omega)).symm
  have := key m.toNat
  rwa [Int.toNat_of_nonneg hm] at this
theorem sm_app {f : Int → Int} {a b : Int} (ha : 0 ≤ a) (hb : 0 ≤ b) : sm f (a + b) = sm f a + sm (fun i => f (a + i)) b := by
  have key : ∀ k : Nat, sm f (a + k) = sm f a + sm (fun i => f (a + i)) k := by
    intro k
    induction k with
    | zero =>
      show sm f (a + 0) = sm f a + 0
      rw [Int.add_zero, Int.add_zero]
    | succ k ih =>
      rw [show a + ((k + 1 : Nat) : Int) = a + k + 1 from by omega, sm_succ (by omega), ih, show ((k + 1 : Nat) : Int) = (k : Int) + 1 from by omega, sm_succ (by omega)]
      omega
  have := key b.toNat
  rwa [Int.toNat_of_nonneg hb] at this
theorem sm_mul {f : Int → Int} {n m : Int} (hn : 0 ≤ n) (hm : 0 ≤ m) : sm f (n * m) = sm (fun q => sm (fun p => f (n * q + p)) n) m := by
  have key : ∀ k : Nat, sm f (n * k) = sm (fun q => sm (fun p => f (n * q + p)) n) k := by
    intro k
    induction k with
    | zero => rw [show n * ((0 : Nat) : Int) = 0 from Int.mul_zero n]; rfl
    | succ k ih =>
      rw [show ((k + 1 : Nat) : Int) = (k : Int) + 1 from by omega, Int.mul_add, Int.mul_one, sm_app (Int.mul_nonneg hn (by omega)) hn, ih, sm_succ (by omega)]
  have := key m.toNat
  rwa [Int.toNat_of_nonneg hm] at this
theorem cnt_sm {p : Int → Bool} {n : Int} (hn : 0 ≤ n) : cnt p n = sm (fun i => if p i = true then 1 else 0) n := by
  have key : ∀ m : Nat, cnt p m = sm (fun i => if p i = true then 1 else 0) m := by
    intro m
    induction m with
    | zero => rfl
    | succ m ih =>
      rw [show ((m + 1 : Nat) : Int) = (m : Int) + 1 from by omega, cnt_succ (by omega), sm_succ (by omega), ih]
      split <;> omega
  have := key n.toNat
  rwa [Int.toNat_of_nonneg hn] at this
theorem same_congr {P P' Q : Int → Int} (h : ∀ x, 0 ≤ x → x < 12 → P x = P' x) : same P Q = same P' Q := by
  unfold same allI
  exact foldI_congr fun i y a b => by
    show (y && decide (P i = Q i)) = (y && decide (P' i = Q i))
    rw [h i a b]
def S1 (F : List Clz) (R : Int → Int) (l p : Int) (P : Int → Int) : Int → Int := pnt R p (fun x => lk F R x l) P
/-- of the rows of two, of three, in the order in which the reference goes through them -/
def hm2 (F : List Clz) (R : Int → Int) (l p q : Int) : Int := if same (S1 F R l q (S1 F R l p (fun x => R (12 + 12 * (l - 1) + x)))) (fun x => R (12 + 12 * l + x)) = true then 1 else 0
def hm3 (F : List Clz) (R : Int → Int) (l p q r : Int) : Int := if same (S1 F R l r (S1 F R l q (S1 F R l p (fun x => R (12 + 12 * (l - 1) + x))))) (fun x => R (12 + 12 * l + x)) = true then 1 else 0
theorem row_dm {n p q : Int} (hp : 0 ≤ p ∧ p < n) (hq : 0 ≤ q) : (n * q + p) % n = p ∧ (n * q + p) / n = q := by
  have hn : 0 < n := by omega
  constructor
  · rw [Int.add_comm, Int.add_mul_emod_self_left, Int.emod_eq_of_lt hp.1 hp.2]
  · rw [Int.add_comm, Int.add_mul_ediv_left _ _ (by omega), Int.ediv_eq_zero_of_lt hp.1 hp.2, Int.zero_add]
theorem mis2 {F : List Clz} {R : Int → Int} {l : Int} (h0 : 0 ≤ R 0) : mis F R l 2 = sm (fun p => sm (fun q => hm2 F R l p q) (R 0)) (R 0) := by
  unfold mis
  rw [show pw (R 0) 2 = R 0 * R 0 from by show 1 * R 0 * R 0 = _; rw [Int.one_mul], cnt_sm (Int.mul_nonneg h0 h0), sm_mul h0 h0]
  refine Eq.trans (sm_congr fun q a b => sm_congr fun p a2 b2 => ?_) (sm_swap (f := fun p q => hm2 F R l p q) h0 h0)
  have e := row_dm (n := R 0) (p := p) (q := q) ⟨a2, b2⟩ a
  have e2 : q % R 0 = q := Int.emod_eq_of_lt a b
  unfold hm2
  have : same (fun x => thr R (R 0) x (lk F R x l) 2 (R 0 * q + p) (R (12 + 12 * (l - 1) + x))) (fun x => R (12 + 12 * l + x)) = same (S1 F R l q (S1 F R l p (fun x => R (12 + 12 * (l - 1) + x)))) (fun x => R (12 + 12 * l + x)) := by
    refine same_congr fun x _ _ => ?_
    show brs R ((R 0 * q + p) / R 0 % R 0) x (brs R ((R 0 * q + p) % R 0) x (R (12 + 12 * (l - 1) + x)) (lk F R x l)) (lk F R x l) = _
    rw [e.1, e.2, e2]
    rfl
  rw [this]
theorem mis3 {F : List Clz} {R : Int → Int} {l : Int} (h0 : 0 ≤ R 0) : mis F R l 3 = sm (fun p => sm (fun q => sm (fun r => hm3 F R l p q r) (R 0)) (R 0)) (R 0) := by
  have h00 := Int.mul_nonneg h0 h0
  unfold mis
  rw [show pw (R 0) 3 = R 0 * R 0 * R 0 from by show 1 * R 0 * R 0 * R 0 = _; rw [Int.one_mul], cnt_sm (Int.mul_nonneg h00 h0), sm_mul h00 h0]
  have e1 : ∀ r, 0 ≤ r → r < R 0 → sm (fun s => if same (fun x => thr R (R 0) x (lk F R x l) 3 (R 0 * R 0 * r + s) (R (12 + 12 * (l - 1) + x))) (fun x => R (12 + 12 * l + x)) = true then 1 else 0) (R 0 * R 0) = sm (fun p => sm (fun q => hm3 F R l p q r) (R 0)) (R 0) := by
    intro r ra rb
    rw [sm_mul h0 h0]
    refine Eq.trans (sm_congr fun q a b => sm_congr fun p a2 b2 => ?_) (sm_swap (f := fun p q => hm3 F R l p q r) h0 h0)
    have e := row_dm (n := R 0) (p := p) (q := R 0 * r + q) ⟨a2, b2⟩ (by have := Int.mul_nonneg h0 ra; omega)
    have e' := row_dm (n := R 0) (p := q) (q := r) ⟨a, b⟩ ra
    have e3 : r % R 0 = r := Int.emod_eq_of_lt ra rb
    have er : R 0 * R 0 * r + (R 0 * q + p) = R 0 * (R 0 * r + q) + p := by rw [Int.mul_add, Int.mul_assoc]; omega
    unfold hm3
    have : same (fun x => thr R (R 0) x (lk F R x l) 3 (R 0 * R 0 * r + (R 0 * q + p)) (R (12 + 12 * (l - 1) + x))) (fun x => R (12 + 12 * l + x)) = same (S1 F R l r (S1 F R l q (S1 F R l p (fun x => R (12 + 12 * (l - 1) + x))))) (fun x => R (12 + 12 * l + x)) := by
      refine same_congr fun x _ _ => ?_
      rw [er]
      show brs R ((R 0 * (R 0 * r + q) + p) / R 0 / R 0 % R 0) x (brs R ((R 0 * (R 0 * r + q) + p) / R 0 % R 0) x (brs R ((R 0 * (R 0 * r + q) + p) % R 0) x (R (12 + 12 * (l - 1) + x)) (lk F R x l)) (lk F R x l)) (lk F R x l) = _
      rw [e.1, e.2, e'.1, e'.2, e3]
      rfl
    rw [this]
  rw [sm_congr e1, sm_swap h0 h0]
  refine sm_congr fun p _ _ => ?_
  exact sm_swap h0 h0
def hmr (F : List Clz) (R : Int → Int) (l y p q : Int) : Int := if y = 1 then hm2 F R l p q else sm (fun r => hm3 F R l p q r) (R 0)
theorem r_missing {T : List Shp} {c : Cm} {F : List Clz} {l y : Int} (h : RWd c F) (hl : 1 ≤ l ∧ l ≤ c 79 4) (hy : y = 1 ∨ y = 2) : QI T (fun r c' => r = mis F (c 79) l (y + 1).toNat ∧ Off [92, 94, 95, 96] [0, 30, 34, 35, 36] c c') (ccal 306 [vR 78, vI l, vI y] (SH T, c)) := by
  have hR := h.1
  have h1 := hR.1
  have em : mis F (c 79) l (y + 1).toNat = sm (fun p => sm (fun q => hmr F (c 79) l y p q) (c 79 0)) (c 79 0) := by
    rcases hy with e | e
    · subst e; exact mis2 (by omega)
    · subst e; exact mis3 (by omega)
  rw [em]
  clear em
  refine W_X12_missing (Q := QI T _) ⟨fun _ => ⟨fun _ => ?_, fun h => absurd h (by omega)⟩, fun h => absurd h (by omega)⟩
  have o0 : Off [92, 94, 95, 96] [0, 30, 34, 35, 36] c (up c 77 0 0) := Off.rfl.wr rfl
  refine (r_layLooks (h.off o0 rfl) (y := l) (by omega)).mono fun c1 h2 => ⟨by omega, ?_⟩
  rw [o0.row rfl] at h2
  have o1 : Off [92, 94, 95, 96] [0, 30, 34, 35, 36] c c1 := o0.trans (h2.2.2.mono rfl rfl)
  refine (r_loadPaper (a := 0) (l := l - 1) (by omega) (by omega)).mono fun c2 h3 => ?_
  rw [o1.row rfl] at h3
  have o2 : Off [92, 94, 95, 96] [0, 30, 34, 35, 36] c c2 := o1.trans (h3.2.2.mono rfl rfl)
  refine (r_loadPaper (a := 4) (l := l) (by omega) (by omega)).mono fun c3 h4 => ?_
  rw [o2.row rfl] at h4
  have o3 : Off [92, 94, 95, 96] [0, 30, 34, 35, 36] c c3 := o2.trans (h4.2.2.mono rfl rfl)
  rw [o3.row rfl]
  have p0 : PP c3 0 (fun x => c 79 (12 + 12 * (l - 1) + x)) := h3.1.keep h4.2.1 (by omega)
  have p4 := h4.1
  have l3 : LK c3 F (c 79) l := (h2.1.off h3.2.2 rfl).off h4.2.2 rfl
  have b2 : ∀ p q, 0 ≤ hm2 F (c 79) l p q ∧ hm2 F (c 79) l p q ≤ 1 := fun p q => by unfold hm2; split <;> omega
  have b3 : ∀ p q r, 0 ≤ hm3 F (c 79) l p q r ∧ hm3 F (c 79) l p q r ≤ 1 := fun p q r => by unfold hm3; split <;> omega
  have br : ∀ p q, 0 ≤ hmr F (c 79) l y p q ∧ hmr F (c 79) l y p q ≤ 5 := fun p q => by
    unfold hmr
    split
    · have := b2 p q; omega
    · have := sm_bd (f := fun r => hm3 F (c 79) l p q r) (n := c 79 0) (B := 1) (by omega) (by omega) (fun r _ _ => b3 p q r); omega
  have bq : ∀ p n, 0 ≤ n → n ≤ 5 → 0 ≤ sm (fun q => hmr F (c 79) l y p q) n ∧ sm (fun q => hmr F (c 79) l y p q) n ≤ 25 := fun p n a b => by
    have := sm_bd (f := fun q => hmr F (c 79) l y p q) (n := n) (B := 5) a (by omega) (fun q _ _ => br p q); omega
  have bp : ∀ n, 0 ≤ n → n ≤ 5 → 0 ≤ sm (fun p => sm (fun q => hmr F (c 79) l y p q) (c 79 0)) n ∧ sm (fun p => sm (fun q => hmr F (c 79) l y p q) (c 79 0)) n ≤ 125 := fun n a b => by
    have := sm_bd (f := fun p => sm (fun q => hmr F (c 79) l y p q) (c 79 0)) (n := n) (B := 25) a (by omega) (fun p _ _ => bq p _ (by omega) (by omega)); omega
  refine lpI (E := fun p (s : Int × Cm) => cev 306 8 65 [vR 78, vI l, vI y, vI (c 79 0), vI s.1, vI p, vU, vU] [] (SH T, s.2)) (fun p s => (0 ≤ p ∧ p ≤ c 79 0) ∧ (Off [96] [] c3 s.2 ∧ PP s.2 0 (fun x => c 79 (12 + 12 * (l - 1) + x)) ∧ PP s.2 4 (fun x => c 79 (12 + 12 * l + x))) ∧ s.1 = sm (fun p => sm (fun q => hmr F (c 79) l y p q) (c 79 0)) p) (c 79 0) ?_ ?_ 0 (0, c3) ⟨by omega, ⟨Off.rfl, p0, p4⟩, rfl⟩
  · intro p s hp hI ih
    have os : Off [92, 94, 95, 96] [0, 30, 34, 35, 36] c s.2 := o3.trans (hI.2.1.1.mono rfl rfl)
    have es := os.row rfl
    refine W_X12_missing_65 ⟨fun _ => ?_, fun h => absurd hp h⟩
    refine (r_paintPaper (h.off os rfl) (a := 0) (b := 1) (p := p) (y := l) (by rw [es]; omega) (by omega) (by omega) (by omega) (by omega) hI.2.1.2.1 (fun x a b => hR.tone (by omega) ⟨a, b⟩) (by rw [es]; exact l3.off hI.2.1.1 rfl)).mono fun c4 h5 => ?_
    rw [es] at h5
    have o4 : Off [96] [] c3 c4 := hI.2.1.1.trans h5.2.2
    refine lpI (E := fun q (u : Int × Cm) => cev 306 8 83 [vR 78, vI l, vI y, vI (c 79 0), vI u.1, vI p, vI q, vU] [] (SH T, u.2)) (fun q u => (0 ≤ q ∧ q ≤ c 79 0) ∧ (Off [96] [] c3 u.2 ∧ PP u.2 0 (fun x => c 79 (12 + 12 * (l - 1) + x)) ∧ PP u.2 4 (fun x => c 79 (12 + 12 * l + x)) ∧ PP u.2 1 (S1 F (c 79) l p (fun x => c 79 (12 + 12 * (l - 1) + x)))) ∧ u.1 = s.1 + sm (fun q => hmr F (c 79) l y p q) q) (c 79 0) ?_ ?_ 0 (s.1, c4) ⟨by omega, ⟨o4, hI.2.1.2.1.keep h5.2.1 (by omega), hI.2.1.2.2.keep h5.2.1 (by omega), h5.1⟩, (Int.add_zero _).symm⟩
    · intro q u hq hU ihq
      have ou : Off [92, 94, 95, 96] [0, 30, 34, 35, 36] c u.2 := o3.trans (hU.2.1.1.mono rfl rfl)
      have eu := ou.row rfl
      have bb := bp p (by omega) (by omega)
      have bc := bq p q (by omega) (by omega)
      have bd := br p q
      rw [← hI.2.2] at bb
      have hu2 := hU.2.2
      refine W_X12_missing_83 ⟨fun _ => ?_, fun h => absurd hq h⟩
      refine (r_paintPaper (h.off ou rfl) (a := 1) (b := 2) (p := q) (y := l) (by rw [eu]; omega) (by omega) (by omega) (by omega) (by omega) hU.2.1.2.2.2 (fun x a b => pnt_bd) (by rw [eu]; exact l3.off hU.2.1.1 rfl)).mono fun c5 h6 => ?_
      rw [eu] at h6
      have o5 : Off [96] [] c3 c5 := hU.2.1.1.trans h6.2.2
      have q0 := hU.2.1.2.1.keep h6.2.1 (by omega)
      have q4 := hU.2.1.2.2.1.keep h6.2.1 (by omega)
      have q1 := hU.2.1.2.2.2.keep h6.2.1 (by omega)
      have nxt : ∀ c6, Off [96] [] c3 c6 → PP c6 0 (fun x => c 79 (12 + 12 * (l - 1) + x)) → PP c6 4 (fun x => c 79 (12 + 12 * l + x)) → PP c6 1 (S1 F (c 79) l p (fun x => c 79 (12 + 12 * (l - 1) + x))) → QI T (fun r c' => r = sm (fun p => sm (fun q => hmr F (c 79) l y p q) (c 79 0)) (c 79 0) ∧ Off [92, 94, 95, 96] [0, 30, 34, 35, 36] c c') (cev 306 8 83 [vR 78, vI l, vI y, vI (c 79 0), vI (u.1 + hmr F (c 79) l y p q), vI p, vI (q + 1), vU] [] (SH T, c6)) := by
        intro c6 a1 a2 a3 a4
        refine ihq (_, c6) ⟨by omega, ⟨a1, a2, a3, a4⟩, ?_⟩
        show u.1 + _ = _
        rw [sm_succ (by omega), hU.2.2]
        omega
      rcases hy with e | e
      · have eh : hmr F (c 79) l y p q = hm2 F (c 79) l p q := by unfold hmr; rw [if_pos e]
        have fin : ∀ v, v = u.1 + hmr F (c 79) l y p q → QI T (fun r c' => r = sm (fun p => sm (fun q => hmr F (c 79) l y p q) (c 79 0)) (c 79 0) ∧ Off [92, 94, 95, 96] [0, 30, 34, 35, 36] c c') (cev 306 8 125 [vR 78, vI l, vI y, vI (c 79 0), vI v, vI p, vI q, vI 0] [] (SH T, c5)) := by
          intro v hv
          rw [hv]
          refine W_X12_missing_125 ⟨fun _ => ⟨fun h => absurd h (by omega), fun _ => ⟨by omega, nxt c5 o5 q0 q4 q1⟩⟩, fun _ => ⟨by omega, nxt c5 o5 q0 q4 q1⟩⟩
        refine ⟨fun _ => QI.of_eq (r_isSame (by omega) (by omega) h6.1 q4) ⟨fun h7 => ⟨by omega, fin _ ?_⟩, fun h7 => ⟨by omega, fin _ ?_⟩⟩, fun h => absurd e h⟩
        · have h8 : same (S1 F (c 79) l q (S1 F (c 79) l p (fun x => c 79 (12 + 12 * (l - 1) + x)))) (fun x => c 79 (12 + 12 * l + x)) = false := b01_e0 h7
          rw [eh]
          unfold hm2
          rw [h8, if_neg (by decide)]
        · have h8 : same (S1 F (c 79) l q (S1 F (c 79) l p (fun x => c 79 (12 + 12 * (l - 1) + x)))) (fun x => c 79 (12 + 12 * l + x)) = true := b01_ne h7
          rw [eh]
          unfold hm2
          rw [if_pos h8]
      · have eh : hmr F (c 79) l y p q = sm (fun r => hm3 F (c 79) l p q r) (c 79 0) := by unfold hmr; rw [if_neg (by omega)]
        refine ⟨fun h => absurd h (by omega), fun _ => ⟨by omega, ?_⟩⟩
        rw [Int.add_zero]
        refine lpI (E := fun r (w : Int × Cm) => cev 306 8 125 [vR 78, vI l, vI y, vI (c 79 0), vI w.1, vI p, vI q, vI r] [] (SH T, w.2)) (fun r w => (0 ≤ r ∧ r ≤ c 79 0) ∧ (Off [96] [] c3 w.2 ∧ PP w.2 0 (fun x => c 79 (12 + 12 * (l - 1) + x)) ∧ PP w.2 4 (fun x => c 79 (12 + 12 * l + x)) ∧ PP w.2 1 (S1 F (c 79) l p (fun x => c 79 (12 + 12 * (l - 1) + x))) ∧ PP w.2 2 (S1 F (c 79) l q (S1 F (c 79) l p (fun x => c 79 (12 + 12 * (l - 1) + x))))) ∧ w.1 = u.1 + sm (fun r => hm3 F (c 79) l p q r) r) (c 79 0) ?_ ?_ 0 (u.1, c5) ⟨by omega, ⟨o5, q0, q4, q1, h6.1⟩, (Int.add_zero _).symm⟩
        · intro r w hr hW ihr
          have ow : Off [92, 94, 95, 96] [0, 30, 34, 35, 36] c w.2 := o3.trans (hW.2.1.1.mono rfl rfl)
          have ew := ow.row rfl
          have be := sm_bd (f := fun r => hm3 F (c 79) l p q r) (n := r) (B := 1) (by omega) (by omega) (fun r _ _ => b3 p q r)
          have hw2 := hW.2.2
          refine W_X12_missing_125 ⟨fun _ => ⟨fun _ => ?_, fun h => absurd e h⟩, fun h => absurd hr h⟩
          refine (r_paintPaper (h.off ow rfl) (a := 2) (b := 3) (p := r) (y := l) (by rw [ew]; omega) (by omega) (by omega) (by omega) (by omega) hW.2.1.2.2.2.2 (fun x a b => pnt_bd) (by rw [ew]; exact l3.off hW.2.1.1 rfl)).mono fun c6 h7 => ?_
          rw [ew] at h7
          have o6 : Off [96] [] c3 c6 := hW.2.1.1.trans h7.2.2
          have s0 := hW.2.1.2.1.keep h7.2.1 (by omega)
          have s4 := hW.2.1.2.2.1.keep h7.2.1 (by omega)
          have s1 := hW.2.1.2.2.2.1.keep h7.2.1 (by omega)
          have s2 := hW.2.1.2.2.2.2.keep h7.2.1 (by omega)
          refine QI.of_eq (r_isSame (by omega) (by omega) h7.1 s4) ⟨fun h8 => ⟨by omega, ihr (_, c6) ⟨by omega, ⟨o6, s0, s4, s1, s2⟩, ?_⟩⟩, fun h8 => ⟨by omega, ihr (_, c6) ⟨by omega, ⟨o6, s0, s4, s1, s2⟩, ?_⟩⟩⟩
          · show w.1 + 0 = _
            rw [sm_succ (by omega), hW.2.2]
            have h9 : same (S1 F (c 79) l r (S1 F (c 79) l q (S1 F (c 79) l p (fun x => c 79 (12 + 12 * (l - 1) + x))))) (fun x => c 79 (12 + 12 * l + x)) = false := b01_e0 h8
            have : hm3 F (c 79) l p q r = 0 := by unfold hm3; rw [h9, if_neg (by decide)]
            rw [this]
            omega
          · show w.1 + 1 = _
            rw [sm_succ (by omega), hW.2.2]
            have h9 : same (S1 F (c 79) l r (S1 F (c 79) l q (S1 F (c 79) l p (fun x => c 79 (12 + 12 * (l - 1) + x))))) (fun x => c 79 (12 + 12 * l + x)) = true := b01_ne h8
            have : hm3 F (c 79) l p q r = 1 := by unfold hm3; rw [if_pos h9]
            rw [this]
            omega
        · intro r w hr hW
          have : r = c 79 0 := by omega
          subst this
          refine W_X12_missing_125 ⟨fun h => absurd h (by omega), fun _ => ⟨by omega, ?_⟩⟩
          rw [hW.2.2, ← eh]
          exact nxt w.2 hW.2.1.1 hW.2.1.2.1 hW.2.1.2.2.1 hW.2.1.2.2.2.1
    · intro q u hq hU
      have bb := bp p (by omega) (by omega)
      have : q = c 79 0 := by omega
      subst this
      refine W_X12_missing_83 ⟨fun h => absurd h (by omega), fun _ => ⟨by omega, ih (u.1, u.2) ⟨by omega, ⟨hU.2.1.1, hU.2.1.2.1, hU.2.1.2.2.1⟩, ?_⟩⟩⟩
      show u.1 = _
      rw [sm_succ (by omega), hU.2.2, hI.2.2]
  · intro p s hp hI
    have : p = c 79 0 := by omega
    subst this
    refine W_X12_missing_65 ⟨fun h => absurd h (by omega), fun _ => QI.ret ⟨hI.2.2, o3.trans (hI.2.1.1.mono rfl rfl)⟩⟩
theorem scp_cg {R R' : Int → Int} {x y : Int} (h3 : R' 3 = R 3) (hR : R 3 ≤ 6) (h : ∀ j, 258 ≤ j → j < 276 → R' j = R j) : scp R' x y = scp R x y := by
  unfold scp
  rw [h3]
  refine foldI_congr fun i p a b => ?_
  rw [h (258 + 3 * i) (by omega) (by omega), h (258 + 3 * i + 1) (by omega) (by omega), h (258 + 3 * i + 2) (by omega) (by omega)]
theorem wB_cg {R R' : Int → Int} {y : Int} (h7 : R' 7 = R 7) (h8 : R' 8 = R 8) (h9 : R' 9 = R 9) : wB R' y = wB R y := by
  funext i
  unfold wB ag
  rw [h7, h8, h9]
theorem lk_cg {F : List Clz} {R R' : Int → Int} {x y : Int} (h3 : R' 3 = R 3) (hR : R 3 ≤ 6) (h7 : R' 7 = R 7) (h8 : R' 8 = R 8) (h9 : R' 9 = R 9) (h : ∀ j, 258 ≤ j → j < 276 → R' j = R j) : lk F R' x y = lk F R x y := by
  unfold lk wC
  rw [scp_cg h3 hR h, wB_cg h7 h8 h9]
  unfold ag
  rw [h7, h8]
theorem pRw_o {F : List Clz} {R : Int → Int} {p j : Int} (h1 : j ≠ 4) (h2 : j ≠ 217 + R 4) (h3 : j < 24 + 12 * R 4 ∨ 36 + 12 * R 4 ≤ j) : pRw F R p j = R j := by
  unfold pRw
  rw [if_neg h1, if_neg h2, tR_out (by omega)]
theorem pRw_unl {F : List Clz} {R : Int → Int} {p : Int} (hR : RNG R) (h4 : R 4 ≤ 15) : unl F (pRw F R p) (R 4 + 1) = ulk (pnt R p (fun x => lk F R x (R 4 + 1)) (fun x => R (12 + 12 * R 4 + x))) (fun x => lk F R x (R 4 + 1)) := by
  have h1 := hR.1
  unfold unl ulk
  refine foldI_congr fun x n a b => ?_
  show n + abz (pRw F R p (12 + 12 * (R 4 + 1) + x) - lk F (pRw F R p) x (R 4 + 1)) = n + abz (pnt R p (fun x => lk F R x (R 4 + 1)) (fun x => R (12 + 12 * R 4 + x)) x - lk F R x (R 4 + 1))
  have e1 : lk F (pRw F R p) x (R 4 + 1) = lk F R x (R 4 + 1) := lk_cg (pRw_o (by omega) (by omega) (by omega)) (by omega) (pRw_o (by omega) (by omega) (by omega)) (pRw_o (by omega) (by omega) (by omega)) (pRw_o (by omega) (by omega) (by omega)) fun j a b => pRw_o (by omega) (by omega) (by omega)
  rw [e1]
  have e2 : pRw F R p (12 + 12 * (R 4 + 1) + x) = pnt R p (fun x => lk F R x (R 4 + 1)) (fun x => R (12 + 12 * R 4 + x)) x := by
    unfold pRw tR pnt
    rw [if_neg (by omega), if_neg (by omega), if_pos (by omega), show 12 + 12 * (R 4 + 1) + x - (24 + 12 * R 4) = x from by omega, show 12 + 12 * (R 4 + 1) + x - 12 = 12 + 12 * R 4 + x from by omega]
  rw [e2]
/-- what paintNow answers -/
def pnA (F : List Clz) (R : Int → Int) (p : Int) : Int := if brp F R p (R 4 + 1) = true ∨ rst R p (R 4 + 1) = true then -3 else if 16 ≤ R 4 then -5 else unl F (pRw F R p) (R 4 + 1)
def pnR (F : List Clz) (R : Int → Int) (p : Int) : Int → Int := if brp F R p (R 4 + 1) = true ∨ rst R p (R 4 + 1) = true then R else if 16 ≤ R 4 then R else pRw F R p
theorem r_paintNow {T : List Shp} {c : Cm} {F : List Clz} {p : Int} (h : RWd c F) (hp : 0 ≤ p ∧ p < c 79 0) : QI T (fun r c' => r = pnA F (c 79) p ∧ c' 79 = pnR F (c 79) p ∧ Off [79, 92, 94, 95, 96] [30, 34, 35, 36] c c') (ccal 266 [vR 78, vI p] (SH T, c)) := by
  have hR := h.1
  have h1 := hR.1
  refine W_X12_paintNow (Q := QI T _) ⟨by omega, ?_⟩
  refine (r_isBarred h hp (y := c 79 4 + 1) (by omega)).mono fun r1 c2 h2 => ?_
  rw [h2.1]
  refine ⟨fun h3 => ?_, fun h3 => QI.ret ⟨?_, ?_, h2.2.mono rfl rfl⟩⟩
  · have w2 := h.off h2.2 rfl
    have e2 := h2.2.row rfl
    refine QI.of_eq (r_rests w2 (p := p) (y := c 79 4 + 1) (by omega)) ?_
    rw [e2]
    have hb := b01_e0 h3
    refine ⟨fun h4 => ⟨fun h5 => QI.ret ⟨?_, ?_, h2.2.mono rfl rfl⟩, fun h5 => ?_⟩, fun h4 => QI.ret ⟨?_, ?_, h2.2.mono rfl rfl⟩⟩
    · unfold pnA
      rw [if_neg (by rw [hb, b01_e0 h4]; decide), if_pos (by omega)]
    · unfold pnR
      rw [if_neg (by rw [hb, b01_e0 h4]; decide), if_pos (by omega)]
      exact e2
    · have eA : pnA F (c 79) p = unl F (pRw F (c 79) p) (c 79 4 + 1) := by
        unfold pnA
        rw [if_neg (by rw [hb, b01_e0 h4]; decide), if_neg (by omega)]
      have eR : pnR F (c 79) p = pRw F (c 79) p := by
        unfold pnR
        rw [if_neg (by rw [hb, b01_e0 h4]; decide), if_neg (by omega)]
      rw [eA, eR]
      refine (r_layLooks w2 (y := c 79 4 + 1) (by omega)).mono fun c5 h6 => ⟨by omega, ?_⟩
      rw [e2] at h6
      have w5 := w2.off h6.2.2 rfl
      have e5 : c5 79 = c 79 := (h6.2.2.row rfl).trans e2
      rw [show c 79 4 + 1 - 1 = c 79 4 from by omega]
      refine (r_loadPaper (a := 0) (l := c 79 4) (by omega) (by omega)).mono fun c6 h7 => ?_
      rw [e5] at h7
      have w6 := w5.off h7.2.2 rfl
      have e6 : c6 79 = c 79 := (h7.2.2.row rfl).trans e5
      refine (r_paintPaper w6 (a := 0) (b := 1) (p := p) (y := c 79 4 + 1) (by rw [e6]; exact hp) (by omega) (by omega) (by omega) (by omega) h7.1 (fun x a b => hR.tone (by omega) ⟨a, b⟩) (by rw [e6]; exact h6.1.off h7.2.2 rfl)).mono fun c7 h8 => ?_
      rw [e6] at h8
      have e7 : c7 79 = c 79 := (h8.2.2.row rfl).trans e6
      have l7 : LK c7 F (c 79) (c 79 4 + 1) := (h6.1.off h7.2.2 rfl).off h8.2.2 rfl
      have o7 : Off [79, 92, 94, 95, 96] [30, 34, 35, 36] c c7 := (((h2.2.mono rfl rfl).trans (h6.2.2.mono rfl rfl)).trans (h7.2.2.mono rfl rfl)).trans (h8.2.2.mono rfl rfl)
      refine lpI (E := fun i (s : Cm) => cev 266 8 60 [vR 78, vI p, vI (c 79 4 + 1), vI i] [] (SH T, s)) (fun i s => (0 ≤ i ∧ i ≤ 12) ∧ Off [79] [] c7 s ∧ s 79 = tR F (c 79) p i) 12 ?_ ?_ 0 c7 ⟨by omega, Off.rfl, ?_⟩
      · intro i s hi hI ih
        have p7 := h8.1.off hI.2.1 rfl i (by omega) (by omega)
        rw [show 12 * 1 + i = 12 + i from by omega] at p7
        refine W_X12_paintNow_60 ⟨fun _ => ?_, fun h => absurd hi h⟩
        rw [p7]
        refine ⟨by omega, ih _ ⟨by omega, hI.2.1.wr rfl, ?_⟩⟩
        funext j
        rw [up_at, hI.2.2]
        unfold tR pnt
        by_cases e : j = 12 + 12 * (c 79 4 + 1) + i
        · rw [if_pos e, if_pos (by omega), show j - (24 + 12 * c 79 4) = i from by omega, show j - 12 = 12 + 12 * c 79 4 + i from by omega]
        · rw [if_neg e]
          by_cases e3 : 24 + 12 * c 79 4 ≤ j ∧ j < 24 + 12 * c 79 4 + i
          · rw [if_pos e3, if_pos (by omega)]
          · rw [if_neg e3, if_neg (by omega)]
      · intro i s hi hI
        have : i = 12 := by omega
        subst this
        refine W_X12_paintNow_60 ⟨fun h => absurd h (by omega), fun _ => ⟨by omega, ?_⟩⟩
        have os : Off [79] [] c7 (up (up s 79 (216 + (c 79 4 + 1)) p) 79 4 (c 79 4 + 1)) := (hI.2.1.wr rfl).wr rfl
        have p8 := h8.1.off os rfl
        refine QI.of_eq (r_unlikePaper hR (by omega) (by omega) p8 (fun x a b => pnt_bd) (l7.off os rfl)) (QI.ret ⟨?_, ?_, o7.trans (os.mono rfl rfl)⟩)
        · exact (pRw_unl hR (by omega)).symm
        · funext j
          rw [up_at, up_at, hI.2.2]
          unfold pRw
          by_cases e4 : j = 4
          · rw [if_pos e4, if_pos e4]
          · rw [if_neg e4, if_neg e4]
            by_cases e : j = 216 + (c 79 4 + 1)
            · rw [if_pos e, if_pos (by omega)]
            · rw [if_neg e, if_neg (by omega)]
      · rw [e7]
        funext j
        exact (tR_out (by omega)).symm
    · unfold pnA
      rw [if_pos (.inr (b01_ne h4))]
    · unfold pnR
      rw [if_pos (.inr (b01_ne h4))]
      exact e2
  · unfold pnA
    rw [if_pos (.inl (b01_ne h3))]
  · unfold pnR
    rw [if_pos (.inl (b01_ne h3))]
    exact h2.2.row rfl
/-- the row with one copy more -/
def cpR (R : Int → Int) : Int → Int := fun j => if j = 5 then R 5 + 1 else if 276 + 12 * R 5 ≤ j ∧ j < 288 + 12 * R 5 then R (12 + 12 * R 4 + (j - (276 + 12 * R 5))) else R j
theorem r_copyNow {T : List Shp} {c : Cm} {F : List Clz} (h : RWd c F) : QI T (fun r c' => (if c 79 5 = 6 then r = -5 ∧ c' = c else r = c 79 5 ∧ c' 79 = cpR (c 79)) ∧ Off [79] [] c c') (ccal 285 [vR 78] (SH T, c)) := by
  have hR := h.1
  have h1 := hR.1
  refine W_X12_copyNow (Q := QI T _) ⟨fun h2 => QI.ret ⟨?_, Off.rfl⟩, fun h2 => ?_⟩
  · rw [if_pos h2]; exact ⟨rfl, rfl⟩
  · refine lpI (E := fun i (s : Cm) => cev 285 3 18 [vR 78, vI (c 79 5), vI i] [] (SH T, s)) (fun i s => (0 ≤ i ∧ i ≤ 12) ∧ Off [79] [] c s ∧ ∀ j, s 79 j = if 276 + 12 * c 79 5 ≤ j ∧ j < 276 + 12 * c 79 5 + i then c 79 (12 + 12 * c 79 4 + (j - (276 + 12 * c 79 5))) else c 79 j) 12 ?_ ?_ 0 c ⟨by omega, Off.rfl, fun j => (if_neg (by omega)).symm⟩
    · intro i s hi hI ih
      refine W_X12_copyNow_18 ⟨fun _ => ?_, fun h => absurd hi h⟩
      rw [hI.2.2 4, if_neg (by omega), hI.2.2 (12 + 12 * c 79 4 + i), if_neg (by omega)]
      refine ⟨by omega, ih _ ⟨by omega, hI.2.1.wr rfl, fun j => ?_⟩⟩
      rw [up_at, hI.2.2]
      by_cases e : j = 276 + 12 * c 79 5 + i
      · rw [if_pos e, if_pos (by omega), show j - (276 + 12 * c 79 5) = i from by omega]
      · rw [if_neg e]
        by_cases e3 : 276 + 12 * c 79 5 ≤ j ∧ j < 276 + 12 * c 79 5 + i
        · rw [if_pos e3, if_pos (by omega)]
        · rw [if_neg e3, if_neg (by omega)]
    · intro i s hi hI
      have : i = 12 := by omega
      subst this
      refine W_X12_copyNow_18 ⟨fun h => absurd h (by omega), fun _ => ?_⟩
      rw [hI.2.2 5, if_neg (by omega)]
      refine ⟨by omega, QI.ret ⟨?_, hI.2.1.wr rfl⟩⟩
      rw [if_neg h2]
      refine ⟨rfl, ?_⟩
      funext j
      rw [up_at, hI.2.2]
      unfold cpR
      by_cases e : j = 5
      · rw [if_pos e, if_pos e]
      · rw [if_neg e, if_neg e]
        by_cases e3 : 276 + 12 * c 79 5 ≤ j ∧ j < 276 + 12 * c 79 5 + 12
        · rw [if_pos e3, if_pos (by omega)]
        · rw [if_neg e3, if_neg (by omega)]
