/-! know: how many cells tell the copies apart -/
theorem ixor_bt {s t k : Int} (hs : 0 ≤ s) (hs2 : s < 2147483648) (ht : 0 ≤ t) (ht2 : t < 2147483648) (hk : 0 ≤ k) : bt (ixor s t) k = (bt s k != bt t k) := by
  obtain ⟨a, rfl⟩ := Int.eq_ofNat_of_zero_le hs
  obtain ⟨b, rfl⟩ := Int.eq_ofNat_of_zero_le ht
  obtain ⟨j, rfl⟩ := Int.eq_ofNat_of_zero_le hk
  rw [ixor_nat (by omega) (by omega), bt_nat, bt_nat, bt_nat, Nat.testBit_xor]
theorem ixor_rng {s t : Int} (hs : 0 ≤ s) (hs2 : s < 2147483648) (ht : 0 ≤ t) (ht2 : t < 2147483648) : 0 ≤ ixor s t ∧ ixor s t < 2147483648 := by
  obtain ⟨a, rfl⟩ := Int.eq_ofNat_of_zero_le hs
  obtain ⟨b, rfl⟩ := Int.eq_ofNat_of_zero_le ht
  rw [ixor_nat (by omega) (by omega)]
  have := Nat.xor_lt_two_pow (n := 31) (x := a) (y := b) (by omega) (by omega)
  omega
theorem bt_sub_le {a b : Int} (ha : 0 ≤ a) (hb : 0 ≤ b) (h : ∀ k, 0 ≤ k → bt a k = true → bt b k = true) : a ≤ b := by
  obtain ⟨m, rfl⟩ := Int.eq_ofNat_of_zero_le ha
  obtain ⟨n, rfl⟩ := Int.eq_ofNat_of_zero_le hb
  have e : m &&& n = m := Nat.eq_of_testBit_eq fun i => by
    rw [Nat.testBit_and]
    cases q : m.testBit i with
    | false => rfl
    | true =>
      have := h i (by omega) (by rw [bt_nat]; exact q)
      rw [bt_nat] at this
      rw [this]; rfl
  have : m ≤ n := by rw [← e]; exact Nat.and_le_right
  omega
theorem bt_ne0 {a : Int} (ha : 0 ≤ a) (h : a ≠ 0) : ∃ k, 0 ≤ k ∧ bt a k = true := by
  refine Classical.byContradiction fun q => h (bt_ext ha (Int.le_refl 0) fun k hk => ?_)
  rw [bt_0]
  cases e : bt a k with
  | false => rfl
  | true => exact absurd ⟨k, hk, e⟩ q
/-- the copies of a set that show a tone in a cell -/
def tq (R : Int → Int) (x q : Int) : Int := R (276 + 12 * q + x)
def grp (R : Int → Int) (s x t : Int) : Int := sto' (fun q => bt s q && decide (tq R x q = t)) (R 5)
def mxf (R : Int → Int) (D : Int → Int) (s x : Int) : Int → Int → Int := fun t m => if grp R s x t ≠ 0 ∧ m < D (grp R s x t) then D (grp R s x t) else m
def mxt (R : Int → Int) (D : Int → Int) (s x : Int) : Int := foldI (mxf R D s x) 0 10
def nee (R : Int → Int) (D : Int → Int) (s x : Int) : Int := if anyI (fun t => decide (grp R s x t = s)) 10 = true then -1 else mxt R D s x + 1
def bsf (R : Int → Int) (D : Int → Int) (s : Int) : Int → Int × Int → Int × Int := fun x p => if nee R D s x = -1 then p else if p.2 = -1 ∨ nee R D s x < p.1 then (nee R D s x, x) else p
def bst (R : Int → Int) (D : Int → Int) (s n : Int) : Int × Int := foldI (bsf R D s) (0, -1) n
def DF (R : Int → Int) (n : Int) : Int → Int := foldI (fun i D => udD D i (bst R D i 12).1) (fun _ => 0) n
def dep (R : Int → Int) (s : Int) : Int := (bst R (DF R s) s 12).1
theorem DF_at {R : Int → Int} {i j : Int} (hj : 0 ≤ j) (hi : j < i) : DF R i j = dep R j := by
  have key : ∀ m : Nat, ∀ j, 0 ≤ j → j < (m : Int) → DF R m j = dep R j := by
    intro m
    induction m with
    | zero => intro j a b; omega
    | succ m ih =>
      intro j a b
      have e : DF R ((m + 1 : Nat) : Int) = udD (DF R m) m (bst R (DF R m) m 12).1 := by
        unfold DF
        rw [show ((m + 1 : Nat) : Int) = (m : Int) + 1 from by omega, foldI_succ (by omega)]
      rw [e]
      by_cases q : j = m
      · subst q; rw [ud_at]; rfl
      · rw [show udD (DF R m) m (bst R (DF R m) m 12).1 j = DF R m j from if_neg q]; exact ih j a (by omega)
  have := key i.toNat j hj (by omega)
  rwa [Int.toNat_of_nonneg (by omega)] at this
theorem grp_bt {R : Int → Int} (hR : RNG R) {s x t k : Int} (hk : 0 ≤ k) : bt (grp R s x t) k = (decide (k < R 5) && (bt s k && decide (tq R x k = t))) := by
  have h1 := hR.1
  have := (sto_spec (p := fun q => bt s q && decide (tq R x q = t)) (n := (R 5).toNat) (by omega)).2 k hk
  rw [Int.toNat_of_nonneg (by omega)] at this
  exact this
theorem grp_rng {R : Int → Int} (hR : RNG R) {s x t : Int} : 0 ≤ grp R s x t ∧ grp R s x t < 64 := by
  have h1 := hR.1
  have := (sto_spec (p := fun q => bt s q && decide (tq R x q = t)) (n := (R 5).toNat) (by omega)).1
  rw [Int.toNat_of_nonneg (by omega)] at this
  have p := p2le (i := (R 5).toNat) (j := 6) (by omega)
  unfold grp
  omega
theorem grp_iff {R : Int → Int} (hR : RNG R) {s x t k : Int} (hk : 0 ≤ k) : bt (grp R s x t) k = true ↔ k < R 5 ∧ bt s k = true ∧ tq R x k = t := by
  rw [grp_bt hR hk, Bool.and_eq_true, Bool.and_eq_true, decide_eq_true_iff, decide_eq_true_iff]
theorem grp_le {R : Int → Int} (hR : RNG R) {s x t : Int} (hs : 0 ≤ s) : grp R s x t ≤ s := bt_sub_le (grp_rng hR).1 hs fun k hk h => ((grp_iff hR hk).mp h).2.1
/-- what is known of the depths of smaller sets -/
def DB (D : Int → Int) (s : Int) : Prop := ∀ j, 1 ≤ j → j < s → 0 ≤ D j ∧ D j ≤ j
theorem mxt_bd {R : Int → Int} (hR : RNG R) {D : Int → Int} {s x n : Int} (hs : 1 ≤ s) (hD : DB D s) (hn : 0 ≤ n) (hg : ∀ t, 0 ≤ t → t < n → grp R s x t ≠ s) : 0 ≤ foldI (mxf R D s x) 0 n ∧ foldI (mxf R D s x) 0 n < s := by
  refine foldI_ind (fun _ m => 0 ≤ m ∧ m < s) (by omega) ?_ hn
  intro t m a b h
  have g0 := grp_rng hR (s := s) (x := x) (t := t)
  have g1 := grp_le hR (s := s) (x := x) (t := t) (by omega)
  have g2 := hg t a b
  unfold mxf
  split
  · have := hD (grp R s x t) (by omega) (by omega); omega
  · exact h
theorem nee_cases {R : Int → Int} (hR : RNG R) {D : Int → Int} {s x : Int} (hs : 1 ≤ s) (hD : DB D s) : ((∃ t, 0 ≤ t ∧ t < 10 ∧ grp R s x t = s) ∧ nee R D s x = -1) ∨ ((∀ t, 0 ≤ t → t < 10 → grp R s x t ≠ s) ∧ nee R D s x = mxt R D s x + 1 ∧ 1 ≤ nee R D s x ∧ nee R D s x ≤ s) := by
  by_cases h : anyI (fun t => decide (grp R s x t = s)) 10 = true
  · left
    obtain ⟨t, a, b, e⟩ := (anyI_iff (by omega)).mp h
    exact ⟨⟨t, a, b, of_decide_eq_true e⟩, by unfold nee; rw [if_pos h]⟩
  · right
    have hg : ∀ t, 0 ≤ t → t < 10 → grp R s x t ≠ s := fun t a b e => h ((anyI_iff (by omega)).mpr ⟨t, a, b, decide_eq_true e⟩)
    have hb := mxt_bd hR hs hD (x := x) (n := 10) (by omega) hg
    have e : nee R D s x = mxt R D s x + 1 := by unfold nee; rw [if_neg h]
    have hb' : 0 ≤ mxt R D s x ∧ mxt R D s x < s := hb
    exact ⟨hg, e, by omega, by omega⟩
theorem nee_cg {R : Int → Int} (hR : RNG R) {D D' : Int → Int} {s x : Int} (hs : 1 ≤ s) (h : ∀ j, 1 ≤ j → j < s → D j = D' j) : nee R D s x = nee R D' s x := by
  unfold nee
  by_cases q : anyI (fun t => decide (grp R s x t = s)) 10 = true
  · rw [if_pos q, if_pos q]
  · rw [if_neg q, if_neg q]
    congr 1
    refine foldI_congr fun t m a b => ?_
    have hg : grp R s x t ≠ s := fun e => q ((anyI_iff (by omega)).mpr ⟨t, a, b, decide_eq_true e⟩)
    have g0 := grp_rng hR (s := s) (x := x) (t := t)
    have g1 := grp_le hR (s := s) (x := x) (t := t) (by omega)
    unfold mxf
    by_cases z : grp R s x t = 0
    · rw [if_neg (fun e => e.1 z), if_neg (fun e => e.1 z)]
    · rw [h (grp R s x t) (by omega) (by omega)]
theorem bst_cg {R : Int → Int} (hR : RNG R) {D D' : Int → Int} {s n : Int} (hs : 1 ≤ s) (h : ∀ j, 1 ≤ j → j < s → D j = D' j) : bst R D s n = bst R D' s n := foldI_congr fun x p _ _ => by
  unfold bsf
  rw [nee_cg hR hs h]
theorem bst_spec {R : Int → Int} (hR : RNG R) {D : Int → Int} {s n : Int} (hs : 1 ≤ s) (hD : DB D s) (hn : 0 ≤ n) : ((bst R D s n).2 = -1 ∧ (bst R D s n).1 = 0 ∧ ∀ x, 0 ≤ x → x < n → nee R D s x = -1) ∨ ((0 ≤ (bst R D s n).2 ∧ (bst R D s n).2 < n) ∧ nee R D s (bst R D s n).2 = (bst R D s n).1 ∧ (1 ≤ (bst R D s n).1 ∧ (bst R D s n).1 ≤ s) ∧ (∀ x, 0 ≤ x → x < n → nee R D s x ≠ -1 → (bst R D s n).1 ≤ nee R D s x) ∧ ∀ x, 0 ≤ x → x < (bst R D s n).2 → nee R D s x ≠ (bst R D s n).1) := by
  refine foldI_ind (fun (n : Int) (p : Int × Int) => (p.2 = -1 ∧ p.1 = 0 ∧ ∀ x, 0 ≤ x → x < n → nee R D s x = -1) ∨ ((0 ≤ p.2 ∧ p.2 < n) ∧ nee R D s p.2 = p.1 ∧ (1 ≤ p.1 ∧ p.1 ≤ s) ∧ (∀ x, 0 ≤ x → x < n → nee R D s x ≠ -1 → p.1 ≤ nee R D s x) ∧ ∀ x, 0 ≤ x → x < p.2 → nee R D s x ≠ p.1)) (.inl ⟨rfl, rfl, fun x a b => by omega⟩) ?_ hn
  intro i p a b h
  have hc := nee_cases hR (x := i) hs hD
  unfold bsf
  by_cases e : nee R D s i = -1
  · rw [if_pos e]
    rcases h with ⟨h1, h2, h3⟩ | ⟨h1, h2, h3, h4, h5⟩
    · refine .inl ⟨h1, h2, fun x a b => ?_⟩
      by_cases q : x = i
      · rw [q]; exact e
      · exact h3 x a (by omega)
    · refine .inr ⟨⟨h1.1, by omega⟩, h2, h3, fun x a b q => ?_, h5⟩
      by_cases q2 : x = i
      · subst q2; exact absurd e q
      · exact h4 x a (by omega) q
  · rw [if_neg e]
    have hv : 1 ≤ nee R D s i ∧ nee R D s i ≤ s := by
      rcases hc with ⟨_, q⟩ | ⟨_, _, q⟩
      · exact absurd q e
      · exact q
    by_cases f : p.2 = -1 ∨ nee R D s i < p.1
    · rw [if_pos f]
      refine .inr ⟨⟨a, show i < i + 1 by omega⟩, rfl, hv, fun x a b q => ?_, fun x a b => ?_⟩
      · show nee R D s i ≤ nee R D s x
        by_cases q2 : x = i
        · rw [q2]; exact Int.le_refl _
        · rcases h with ⟨h1, h2, h3⟩ | ⟨h1, h2, h3, h4, h5⟩
          · exact absurd (h3 x a (by omega)) q
          · have := h4 x a (by omega) q
            omega
      · show nee R D s x ≠ nee R D s i
        have b' : x < i := b
        rcases h with ⟨h1, h2, h3⟩ | ⟨h1, h2, h3, h4, h5⟩
        · rw [h3 x a b']; exact fun q => e q.symm
        · intro q
          have := h4 x a b' (by rw [q]; exact e)
          omega
    · rw [if_neg f]
      rcases h with ⟨h1, h2, h3⟩ | ⟨h1, h2, h3, h4, h5⟩
      · exact absurd (.inl h1) f
      · refine .inr ⟨⟨h1.1, by omega⟩, h2, h3, fun x a b q => ?_, h5⟩
        by_cases q2 : x = i
        · subst q2; omega
        · exact h4 x a (by omega) q
theorem dep_bd {R : Int → Int} (hR : RNG R) : ∀ s, 1 ≤ s → 0 ≤ dep R s ∧ dep R s ≤ s := by
  have key : ∀ m : Nat, ∀ s, 1 ≤ s → s ≤ (m : Int) → 0 ≤ dep R s ∧ dep R s ≤ s := by
    intro m
    induction m with
    | zero => intro s a b; omega
    | succ m ih =>
      intro s a b
      have hD : DB (DF R s) s := fun j c d => by rw [DF_at (by omega) d]; exact ih j c (by omega)
      rcases bst_spec hR (n := 12) a hD (by omega) with ⟨_, h, _⟩ | ⟨_, _, h, _⟩
      · show 0 ≤ (bst R (DF R s) s 12).1 ∧ (bst R (DF R s) s 12).1 ≤ s
        omega
      · show 0 ≤ (bst R (DF R s) s 12).1 ∧ (bst R (DF R s) s 12).1 ≤ s
        omega
  intro s h
  exact key s.toNat s h (by omega)
/-- an array holds the depths of the sets below s -/
def HD (R : Int → Int) (D : Int → Int) (s : Int) : Prop := ∀ j, 1 ≤ j → j < s → D j = dep R j
theorem HD.db {R : Int → Int} (hR : RNG R) {D : Int → Int} {s : Int} (h : HD R D s) : DB D s := fun j a b => by rw [h j a b]; exact dep_bd hR j a
theorem HD.bst {R : Int → Int} (hR : RNG R) {D : Int → Int} {s n : Int} (hs : 1 ≤ s) (h : HD R D s) : bst R D s n = bst R (DF R s) s n := bst_cg hR hs fun j a b => by rw [h j a b, DF_at (by omega) b]
theorem HD.nee {R : Int → Int} (hR : RNG R) {D : Int → Int} {s x : Int} (hs : 1 ≤ s) (h : HD R D s) : nee R D s x = nee R (DF R s) s x := nee_cg hR hs fun j a b => by rw [h j a b, DF_at (by omega) b]
/-- what is gathered over the copies -/
theorem nee_fin {R : Int → Int} (hR : RNG R) {D : Int → Int} {s x m : Int} (hs : 1 ≤ s) (hs2 : s < ((2 ^ (R 5).toNat : Nat) : Int)) (hD : DB D s) (hA : ∀ p, 0 ≤ p → p < R 5 → bt s p = true → grp R s x (tq R x p) ≠ s ∧ D (grp R s x (tq R x p)) ≤ m) (h0 : 0 ≤ m) (hB : m = 0 ∨ ∃ t, 0 ≤ t ∧ t < 10 ∧ grp R s x t ≠ 0 ∧ m = D (grp R s x t)) : nee R D s x = m + 1 := by
  have h1 := hR.1
  have inn : ∀ t, grp R s x t ≠ 0 → ∃ p, 0 ≤ p ∧ p < R 5 ∧ bt s p = true ∧ tq R x p = t := by
    intro t h
    obtain ⟨k, hk, hb⟩ := bt_ne0 (grp_rng hR).1 h
    have := (grp_iff hR hk).mp hb
    exact ⟨k, hk, this.1, this.2.1, this.2.2⟩
  rcases nee_cases hR (x := x) hs hD with ⟨⟨t, a, b, e⟩, _⟩ | ⟨hg, e, _, _⟩
  · obtain ⟨p, c, d, f, g⟩ := inn t (by omega)
    have := (hA p c d f).1
    rw [g] at this
    exact absurd e this
  · rw [e]
    congr 1
    have up : ∀ n : Int, 0 ≤ n → n ≤ 10 → foldI (mxf R D s x) 0 n ≤ m := by
      intro n a b
      refine foldI_ind (fun _ y => y ≤ m) h0 ?_ a
      intro t y c d h
      unfold mxf
      split
      · rename_i q
        obtain ⟨p, c, d, f, g⟩ := inn t q.1
        have := (hA p c d f).2
        rw [g] at this
        exact this
      · exact h
    have lo : ∀ n : Nat, (n : Int) ≤ 10 → 0 ≤ foldI (mxf R D s x) 0 n ∧ ∀ t, 0 ≤ t → t < (n : Int) → grp R s x t ≠ 0 → D (grp R s x t) ≤ foldI (mxf R D s x) 0 n := by
      intro n
      induction n with
      | zero => intro _; exact ⟨Int.le_refl 0, fun t a b => by omega⟩
      | succ n ih =>
        intro hn
        obtain ⟨i1, i2⟩ := ih (by omega)
        have e2 : foldI (mxf R D s x) 0 ((n + 1 : Nat) : Int) = mxf R D s x n (foldI (mxf R D s x) 0 n) := by
          rw [show ((n + 1 : Nat) : Int) = (n : Int) + 1 from by omega, foldI_succ (by omega)]
        have mono : foldI (mxf R D s x) 0 n ≤ mxf R D s x n (foldI (mxf R D s x) 0 n) := by
          unfold mxf
          split
          · omega
          · exact Int.le_refl _
        rw [e2]
        refine ⟨by omega, fun t a b c => ?_⟩
        by_cases q : t = n
        · subst q
          show _ ≤ (if grp R s x n ≠ 0 ∧ foldI (mxf R D s x) 0 n < D (grp R s x n) then D (grp R s x n) else foldI (mxf R D s x) 0 n)
          by_cases f : grp R s x n ≠ 0 ∧ foldI (mxf R D s x) 0 n < D (grp R s x n)
          · rw [if_pos f]; exact Int.le_refl _
          · rw [if_neg f]
            have : ¬ foldI (mxf R D s x) 0 n < D (grp R s x n) := fun z => f ⟨c, z⟩
            omega
        · have := i2 t a (by omega) c
          omega
    have u := up 10 (by omega) (by omega)
    have l := lo 10 (by decide)
    have l1 : 0 ≤ foldI (mxf R D s x) 0 10 := l.1
    show foldI (mxf R D s x) 0 10 = m
    rcases hB with q | ⟨t, a, b, c, d⟩
    · omega
    · have : D (grp R s x t) ≤ foldI (mxf R D s x) 0 10 := l.2 t a b c
      omega
theorem sto_none {p : Int → Bool} {n : Int} (hn : 0 ≤ n) (h : ∀ k, 0 ≤ k → k < n → p k = false) : sto' p n = 0 := by
  refine foldI_ind (fun _ b => b = 0) rfl ?_ hn
  intro i b a1 a2 e
  rw [h i a1 a2, if_neg (by decide)]
  exact e
theorem c_sameIn {T : List Shp} {c : Cm} {R : Int → Int} {s q x : Int} (h : CS c R) (hR : RNG R) (hs : 0 ≤ s ∧ s < 2147483648) (hq : 0 ≤ q ∧ q < R 5) (hx : 0 ≤ x ∧ x < 12) : ccal 86 [vR 50, vI s, vI q, vI x] (SH T, c) = some (some (vI (sto' (fun o => decide (q ≤ o) && (bt s o && decide (tq R x o = tq R x q))) (R 5))), (SH T, c)) := by
  have h1 := hR.1
  have e11 := h.1.2.2.2.2.2.1
  refine W_X8_sameIn (Q := fun Z => Z = some (some (vI (sto' (fun o => decide (q ≤ o) && (bt s o && decide (tq R x o = tq R x q))) (R 5))), (SH T, c))) ?_
  refine lpI (Q := fun Z => Z = some (some (vI (sto' (fun o => decide (q ≤ o) && (bt s o && decide (tq R x o = tq R x q))) (R 5))), (SH T, c))) (E := fun i (b : Int) => cev 86 1 6 [vR 50, vI s, vI q, vI x, vI b, vI i] [] (SH T, c)) (fun i b => (q ≤ i ∧ i ≤ R 5) ∧ b = sto' (fun o => decide (q ≤ o) && (bt s o && decide (tq R x o = tq R x q))) i) (R 5) ?_ ?_ q 0 ⟨by omega, ?_⟩
  · intro i b hi hI ih
    have es : sto' (fun o => decide (q ≤ o) && (bt s o && decide (tq R x o = tq R x q))) (i + 1) = if (decide (q ≤ i) && (bt s i && decide (tq R x i = tq R x q))) = true then ior b (ishl 1 i) else b := by
      rw [hI.2]; exact foldI_succ (by omega)
    rw [decide_eq_true hI.1.1, Bool.true_and] at es
    have bi := bt_iff hs.1 hs.2 (k := i) (by omega) (by omega)
    refine W_X8_sameIn_6 (Q := fun Z => Z = some (some (vI (sto' (fun o => decide (q ≤ o) && (bt s o && decide (tq R x o = tq R x q))) (R 5))), (SH T, c))) ⟨fun _ => ⟨fun e => ⟨by omega, ?_⟩, fun e => ⟨by omega, ih b ⟨by omega, ?_⟩⟩⟩, fun h => absurd hi (by rw [e11] at h; exact h)⟩
    · rw [h.2.2.2.2.2.1 _ (by omega) (by omega), h.2.2.2.2.2.1 _ (by omega) (by omega)]
      rw [show 276 + (i * 12 + x) = 276 + 12 * i + x from by omega, show 276 + (q * 12 + x) = 276 + 12 * q + x from by omega]
      refine ⟨fun e2 => ⟨by omega, ih _ ⟨by omega, ?_⟩⟩, fun e2 => ⟨by omega, ih _ ⟨by omega, ?_⟩⟩⟩
      · rw [es, bi.mp e, decide_eq_true (show tq R x i = tq R x q from e2), if_pos (show (true && true) = true from rfl)]
      · rw [es, decide_eq_false (show ¬ tq R x i = tq R x q from e2), Bool.and_false, if_neg (by decide)]
    · rw [es, if_neg]
      intro z
      exact e (bi.mpr ((Bool.and_eq_true _ _).mp z).1)
  · intro i b hi hI
    refine W_X8_sameIn_6 (Q := fun Z => Z = some (some (vI (sto' (fun o => decide (q ≤ o) && (bt s o && decide (tq R x o = tq R x q))) (R 5))), (SH T, c))) ⟨fun h => absurd h (by omega), fun _ => ?_⟩
    have : i = R 5 := by omega
    rw [hI.2, this]
  · refine (sto_none hq.1 fun k a b => ?_).symm
    rw [decide_eq_false (by omega), Bool.false_and]
theorem tq_rng {R : Int → Int} (hR : RNG R) {x q : Int} (hx : 0 ≤ x ∧ x < 12) (hq : 0 ≤ q ∧ q < 6) : 0 ≤ tq R x q ∧ tq R x q < 10 := by
  have := hR.2.2.2.2.2.2.1 (12 * q + x) (by omega) (by omega)
  unfold tq
  rw [show 276 + 12 * q + x = 276 + (12 * q + x) from by omega]
  omega
theorem c_needBehind {T : List Shp} {c : Cm} {R : Int → Int} {s x : Int} (h : CS c R) (hR : RNG R) (hs : 1 ≤ s ∧ s < ((2 ^ (R 5).toNat : Nat) : Int)) (hD : DB (c 54) s) (hx : 0 ≤ x ∧ x < 12) : ccal 85 [vR 50, vI s, vI x] (SH T, c) = some (some (vI (nee R (c 54) s x)), (SH T, c)) := by
  have h1 := hR.1
  have e11 := h.1.2.2.2.2.2.1
  have p6 := p2le (i := (R 5).toNat) (j := 6) (by omega)
  refine W_X8_needBehind (Q := fun Z => Z = some (some (vI (nee R (c 54) s x)), (SH T, c))) ?_
  refine lpI (Q := fun Z => Z = some (some (vI (nee R (c 54) s x)), (SH T, c))) (E := fun i (v : Int × Int) => cev 85 2 8 [vR 50, vI s, vI x, vI v.1, vI v.2, vI i, vU] [] (SH T, c)) (fun i v => (0 ≤ i ∧ i ≤ R 5) ∧ (0 ≤ v.1 ∧ v.1 < 64) ∧ (0 ≤ v.2 ∧ v.2 < 2147483648) ∧ (∀ q, 0 ≤ q → q < R 5 → (bt v.2 q = true ↔ bt s q = true ∧ ∀ p, 0 ≤ p → p < i → bt s p = true → tq R x p ≠ tq R x q)) ∧ (∀ p, 0 ≤ p → p < i → bt s p = true → grp R s x (tq R x p) ≠ s ∧ c 54 (grp R s x (tq R x p)) ≤ v.1) ∧ (v.1 = 0 ∨ ∃ t, 0 ≤ t ∧ t < 10 ∧ grp R s x t ≠ 0 ∧ v.1 = c 54 (grp R s x t))) (R 5) ?_ ?_ 0 (0, s) ⟨by omega, ⟨Int.le_refl 0, show (0 : Int) < 64 by decide⟩, ⟨show 0 ≤ s by omega, show s < 2147483648 by omega⟩, fun q a b => ⟨fun e => ⟨e, fun p a b => by omega⟩, fun e => e.1⟩, fun p a b => by omega, .inl rfl⟩
  · intro i v hi hI ih
    obtain ⟨⟨i0, i1⟩, hv1, hv2, hL, hA, hB⟩ := hI
    have bi := bt_iff hv2.1 hv2.2 (k := i) (by omega) (by omega)
    refine W_X8_needBehind_8 (Q := fun Z => Z = some (some (vI (nee R (c 54) s x)), (SH T, c))) ⟨fun _ => ⟨fun e0 => ⟨by omega, ?_⟩, fun e0 => ⟨fun e => ?_, fun e => ⟨by omega, ih v ⟨by omega, hv1, hv2, fun q a b => ?_, fun p a b hp => ?_, hB⟩⟩⟩⟩, fun h => absurd hi (by rw [e11] at h; exact h)⟩
    · rw [nee_fin hR hs.1 hs.2 hD (m := v.1) (fun p a b hp => ?_) hv1.1 hB]
      have := hL p a b
      rw [e0, bt_0] at this
      refine Classical.byContradiction fun z => ?_
      refine absurd (this.mpr ⟨hp, fun p' a' b' hp' et => z ?_⟩) (by decide)
      rw [← et]
      exact hA p' a' b' hp'
    · have hLi := (hL i i0 hi).mp (bi.mp e)
      have tr := tq_rng hR (q := i) hx (by omega)
      have ea : sto' (fun o => decide (i ≤ o) && (bt v.2 o && decide (tq R x o = tq R x i))) (R 5) = grp R s x (tq R x i) := by
        refine sto_congr fun o a b => ?_
        show (decide (i ≤ o) && (bt v.2 o && decide (tq R x o = tq R x i))) = (bt s o && decide (tq R x o = tq R x i))
        by_cases et : tq R x o = tq R x i
        · rw [decide_eq_true et, Bool.and_true, Bool.and_true]
          have l := hL o a b
          cases es : bt s o with
          | false =>
            cases el : bt v.2 o with
            | false => rw [Bool.and_false]
            | true => exact absurd ((l.mp el).1) (by rw [es]; decide)
          | true =>
            have io : i ≤ o := by
              refine Classical.byContradiction fun z => ?_
              exact hLi.2 o a (by omega) es et
            rw [decide_eq_true io, Bool.true_and]
            exact l.mpr ⟨es, fun p a' b' hp => by rw [et]; exact hLi.2 p a' b' hp⟩
        · rw [decide_eq_false et, Bool.and_false, Bool.and_false, Bool.and_false]
      have gr := grp_rng hR (s := s) (x := x) (t := tq R x i)
      have gl := grp_le hR (s := s) (x := x) (t := tq R x i) (by omega)
      have gi : bt (grp R s x (tq R x i)) i = true := (grp_iff hR i0).mpr ⟨hi, hLi.1, rfl⟩
      have g0 : grp R s x (tq R x i) ≠ 0 := fun z => by rw [z, bt_0] at gi; exact absurd gi (by decide)
      refine QI.of_eq (c_sameIn h hR hv2 ⟨i0, hi⟩ hx) ?_
      rw [ea]
      refine ⟨fun e2 => ?_, fun e2 => ⟨by omega, ih (_, _) ⟨by omega, ?_, ixor_rng hv2.1 hv2.2 gr.1 (by omega), fun q a b => ?_, fun p a b hp => ?_, ?_⟩⟩⟩
      · rcases nee_cases hR (x := x) hs.1 hD with ⟨_, z⟩ | ⟨hg, _⟩
        · rw [z]
        · exact absurd e2 (hg _ tr.1 tr.2)
      · have := hD (grp R s x (tq R x i)) (by omega) (by omega)
        show 0 ≤ (if v.1 < c 54 (grp R s x (tq R x i)) then c 54 (grp R s x (tq R x i)) else v.1) ∧ (if v.1 < c 54 (grp R s x (tq R x i)) then c 54 (grp R s x (tq R x i)) else v.1) < 64
        split <;> omega
      · show bt (ixor v.2 (grp R s x (tq R x i))) q = true ↔ _
        rw [ixor_bt hv2.1 hv2.2 gr.1 (by omega) a]
        have l := hL q a b
        have g := grp_iff hR (s := s) (x := x) (t := tq R x i) a
        constructor
        · intro z
          cases el : bt v.2 q with
          | false =>
            rw [el] at z
            have gz : bt (grp R s x (tq R x i)) q = true := by
              cases eg : bt (grp R s x (tq R x i)) q with
              | true => rfl
              | false => rw [eg] at z; exact absurd z (by decide)
            have g1 := g.mp gz
            have := l.mpr ⟨g1.2.1, fun p a' b' hp => by rw [g1.2.2]; exact hLi.2 p a' b' hp⟩
            rw [el] at this
            exact absurd this (by decide)
          | true =>
            rw [el] at z
            have gz : ¬ bt (grp R s x (tq R x i)) q = true := by
              intro eg
              rw [eg] at z
              exact absurd z (by decide)
            have l1 := l.mp el
            refine ⟨l1.1, fun p a' b' hp => ?_⟩
            by_cases ep : p = i
            · subst ep
              exact fun et => gz (g.mpr ⟨b, l1.1, et.symm⟩)
            · exact l1.2 p a' (by omega) hp
        · intro z
          have l1 := l.mpr ⟨z.1, fun p a' b' hp => z.2 p a' (by omega) hp⟩
          have g1 : bt (grp R s x (tq R x i)) q = false := by
            cases eg : bt (grp R s x (tq R x i)) q with
            | false => rfl
            | true => exact absurd (g.mp eg).2.2.symm (z.2 i i0 (by omega) hLi.1)
          rw [l1, g1]
          rfl
      · show _ ∧ _ ≤ (if v.1 < c 54 (grp R s x (tq R x i)) then c 54 (grp R s x (tq R x i)) else v.1)
        by_cases ep : p = i
        · subst ep
          refine ⟨e2, ?_⟩
          split <;> omega
        · have := hA p a (by omega) hp
          refine ⟨this.1, ?_⟩
          split <;> omega
      · show (if v.1 < c 54 (grp R s x (tq R x i)) then c 54 (grp R s x (tq R x i)) else v.1) = 0 ∨ ∃ t, _ ∧ _ ∧ _ ∧ (if v.1 < c 54 (grp R s x (tq R x i)) then c 54 (grp R s x (tq R x i)) else v.1) = _
        by_cases z : v.1 < c 54 (grp R s x (tq R x i))
        · rw [if_pos z]
          exact .inr ⟨_, tr.1, tr.2, g0, rfl⟩
        · rw [if_neg z]
          exact hB
    · rw [hL q a b]
      refine ⟨fun z => ⟨z.1, fun p a' b' hp => ?_⟩, fun z => ⟨z.1, fun p a' b' hp => z.2 p a' (by omega) hp⟩⟩
      by_cases ep : p = i
      · subst ep
        intro et
        refine e (bi.mpr ((hL p i0 hi).mpr ⟨hp, fun p' a'' b'' hp' => ?_⟩))
        rw [et]
        exact z.2 p' a'' b'' hp'
      · exact z.2 p a' (by omega) hp
    · by_cases ep : p = i
      · subst ep
        refine Classical.byContradiction fun z => ?_
        refine e (bi.mpr ((hL p i0 hi).mpr ⟨hp, fun p' a' b' hp' et => z ?_⟩))
        rw [← et]
        exact hA p' a' b' hp'
      · exact hA p a (by omega) hp
  · intro i v hi hI
    obtain ⟨⟨i0, i1⟩, hv1, hv2, hL, hA, hB⟩ := hI
    have : i = R 5 := by omega
    subst this
    refine W_X8_needBehind_8 (Q := fun Z => Z = some (some (vI (nee R (c 54) s x)), (SH T, c))) ⟨fun h => absurd h (by omega), fun _ => ⟨by omega, ?_⟩⟩
    rw [nee_fin hR hs.1 hs.2 hD (m := v.1) hA hv1.1 hB]
theorem shl_pow {n : Int} (hn : 0 ≤ n) (hn2 : n < 31) : ishl 1 n = ((2 ^ n.toNat : Nat) : Int) := by
  have := ishl1_nat ⟨n.toNat, by omega⟩
  rw [← this]
  show ishl 1 n = ishl 1 (n.toNat : Int)
  rw [Int.toNat_of_nonneg hn]
theorem c_learn {T : List Shp} {c : Cm} {R : Int → Int} (h : CS c R) (hR : RNG R) (h5 : 1 ≤ R 5) : QV T (fun c' => c' 49 7 = dep R (ishl 1 (R 5) - 1) ∧ c' 49 8 = (bst R (DF R (ishl 1 (R 5) - 1)) (ishl 1 (R 5) - 1) 12).2 ∧ Off [49, 54] [] c c') (ccal 84 [vR 50] (SH T, c)) := by
  have h1 := hR.1
  have e11 := h.1.2.2.2.2.2.1
  have sp := shl_pow (n := R 5) (by omega) (by omega)
  have p6 := p2le (i := (R 5).toNat) (j := 6) (by omega)
  have p1 := p2le (i := 1) (j := (R 5).toNat) (by omega)
  refine W_X8_learn (Q := QV T _) ?_
  rw [e11]
  refine ⟨by omega, ?_⟩
  generalize hN : ishl 1 (R 5) = N at sp
  have o0 : Off [49, 54] [] c (up (up c 49 7 0) 49 8 (-1)) := (Off.rfl.wr rfl).wr rfl
  refine lpI (E := fun s (c' : Cm) => cev 84 3 24 [vR 50, vI (N - 1), vI s, vU, vU, vU, vU] [] (SH T, c')) (fun s c' => (1 ≤ s ∧ s ≤ N) ∧ Off [49, 54] [] c c' ∧ HD R (c' 54) s ∧ (2 ≤ s → c' 49 7 = dep R (s - 1) ∧ c' 49 8 = (bst R (DF R (s - 1)) (s - 1) 12).2)) N ?_ ?_ 1 _ ⟨by omega, o0, fun j a b => by omega, fun z => absurd z (by decide)⟩
  · intro s c' hi hI ih
    obtain ⟨hs, o, hH, _⟩ := hI
    have hD := hH.db hR
    have hc : CS c' R := h.off o rfl
    refine W_X8_learn_24 ⟨fun z => absurd z (by omega), fun _ => ?_⟩
    refine lpI (E := fun i (v : Int × Int) => cev 84 3 37 [vR 50, vI (N - 1), vI s, vI v.1, vI v.2, vI i, vU] [] (SH T, c')) (fun i v => (0 ≤ i ∧ i ≤ 12) ∧ v = bst R (c' 54) s i) 12 ?_ ?_ 0 (0, -1) ⟨by omega, rfl⟩
    · intro i v hi2 hV ih2
      have es : bst R (c' 54) s (i + 1) = bsf R (c' 54) s i v := by rw [hV.2]; exact foldI_succ (by omega)
      refine W_X8_learn_37 ⟨fun _ => QI.of_eq (c_needBehind hc hR ⟨hs.1, by omega⟩ hD (by omega)) ⟨fun e => ⟨by omega, ih2 v ⟨by omega, ?_⟩⟩, fun e => ⟨fun e2 => ⟨by omega, ih2 (nee R (c' 54) s i, i) ⟨by omega, ?_⟩⟩, fun e2 => ⟨fun e3 => ⟨by omega, ih2 (nee R (c' 54) s i, i) ⟨by omega, ?_⟩⟩, fun e3 => ⟨by omega, ih2 v ⟨by omega, ?_⟩⟩⟩⟩⟩, fun z => absurd hi2 z⟩
      · rw [es]; unfold bsf; rw [if_pos e]
      · rw [es]; unfold bsf; rw [if_neg e, if_pos (.inl e2)]
      · rw [es]; unfold bsf; rw [if_neg e, if_pos (.inr e3)]
      · rw [es]; unfold bsf; rw [if_neg e, if_neg (by omega)]
    · intro i v hi2 hV
      have e12 : i = 12 := by omega
      subst e12
      have e1 := hH.bst hR (n := 12) hs.1
      refine W_X8_learn_37 ⟨fun z => absurd z (by omega), fun _ => ⟨by omega, ih _ ⟨by omega, ((o.wr rfl).wr rfl).wr rfl, fun j a b => ?_, fun _ => ⟨?_, ?_⟩⟩⟩⟩
      · rw [up_cell (q := 54) (k := 49) (by decide), up_cell (q := 54) (k := 49) (by decide), up_at]
        by_cases ej : j = s
        · rw [if_pos ej, hV.2, e1, ej]; rfl
        · rw [if_neg ej]; exact hH j a (by omega)
      · rw [up_at, if_neg (by decide), up_at, if_pos rfl, hV.2, e1, show s + 1 - 1 = s from by omega]; rfl
      · rw [up_at, if_pos rfl, hV.2, e1, show s + 1 - 1 = s from by omega]
  · intro s c' hi hI
    obtain ⟨hs, o, hH, hE⟩ := hI
    have : s = N := by omega
    subst this
    have := hE (by omega)
    refine W_X8_learn_24 ⟨fun _ => QV.ret ⟨this.1, this.2, o⟩, fun z => absurd (show s - 1 < s by omega) z⟩
/-- what know answers -/
def knw (R : Int → Int) (w : Int) : Int := if ¬ (0 ≤ w ∧ w < 2) ∨ R 5 = 0 then -1 else if w = 0 then dep R (ishl 1 (R 5) - 1) else (bst R (DF R (ishl 1 (R 5) - 1)) (ishl 1 (R 5) - 1) 12).2
theorem c_know {T : List Shp} {c : Cm} {R : Int → Int} {w : Int} (h : CS c R) (hR : RNG R) : QI T (fun r c' => r = knw R w ∧ Off [49, 54] [] c c') (ccal 150 [vR 1, vI w] (SH T, c)) := by
  have h1 := hR.1
  have e11 := h.1.2.2.2.2.2.1
  refine W_X11_know (Q := QI T _) ?_
  rw [e11]
  unfold knw
  refine ⟨fun e => ⟨fun e2 => QI.ret ⟨?_, Off.rfl⟩, fun e2 => (c_learn h hR (by omega)).mono fun c' h2 => ⟨fun e3 => QI.ret ⟨?_, h2.2.2⟩, fun e3 => QI.ret ⟨?_, h2.2.2⟩⟩⟩, fun e => QI.ret ⟨?_, Off.rfl⟩⟩
  · rw [if_pos (.inr e2)]
  · rw [if_neg (by omega), if_pos e3]; exact h2.1
  · rw [if_neg (by omega), if_neg e3]; exact h2.2.1
  · rw [if_pos (.inl e)]
theorem r_worst {T : List Shp} {c : Cm} {F : List Clz} {s x : Int} (h : RWd c F) (hs : 1 ≤ s ∧ s < ((2 ^ (c 79 5).toNat : Nat) : Int)) (hD : DB (c 104) s) (hx : 0 ≤ x ∧ x < 12) : ccal 299 [vR 78, vI s, vI x] (SH T, c) = some (some (vI (if nee (c 79) (c 104) s x = -1 then 100000000 else nee (c 79) (c 104) s x - 1)), (SH T, c)) := by
  have hR := h.1
  have h1 := hR.1
  have p6 := p2le (i := (c 79 5).toNat) (j := 6) (by omega)
  refine W_X12_worst (Q := fun Z => Z = some (some (vI (if nee (c 79) (c 104) s x = -1 then 100000000 else nee (c 79) (c 104) s x - 1)), (SH T, c))) ?_
  refine lpI (Q := fun Z => Z = some (some (vI (if nee (c 79) (c 104) s x = -1 then 100000000 else nee (c 79) (c 104) s x - 1)), (SH T, c))) (E := fun t (m : Int) => cev 299 2 5 [vR 78, vI s, vI x, vI m, vI t, vU, vU] [] (SH T, c)) (fun t m => (0 ≤ t ∧ t ≤ 10) ∧ m = foldI (mxf (c 79) (c 104) s x) 0 t ∧ ∀ t', 0 ≤ t' → t' < t → grp (c 79) s x t' ≠ s) 10 ?_ ?_ 0 0 ⟨by omega, rfl, fun t' a b => by omega⟩
  · intro t m hi hI ih
    obtain ⟨ht, em, hg⟩ := hI
    have gr := grp_rng hR (s := s) (x := x) (t := t)
    have gl := grp_le hR (s := s) (x := x) (t := t) (by omega)
    have es : foldI (mxf (c 79) (c 104) s x) 0 (t + 1) = mxf (c 79) (c 104) s x t m := by rw [em]; exact foldI_succ (by omega)
    refine W_X12_worst_5 (Q := fun Z => Z = some (some (vI (if nee (c 79) (c 104) s x = -1 then 100000000 else nee (c 79) (c 104) s x - 1)), (SH T, c))) ⟨fun _ => ?_, fun z => absurd hi z⟩
    refine lpI (Q := fun Z => Z = some (some (vI (if nee (c 79) (c 104) s x = -1 then 100000000 else nee (c 79) (c 104) s x - 1)), (SH T, c))) (E := fun i (g : Int) => cev 299 2 18 [vR 78, vI s, vI x, vI m, vI t, vI g, vI i] [] (SH T, c)) (fun i g => (0 ≤ i ∧ i ≤ c 79 5) ∧ (0 ≤ g ∧ g < 2147483648) ∧ g = sto' (fun q => bt s q && decide (tq (c 79) x q = t)) i) (c 79 5) ?_ ?_ 0 0 ⟨by omega, by omega, rfl⟩
    · intro i g hi2 hI2 ih2
      have bi := bt_iff (s := s) (by omega) (by omega) (k := i) (by omega) (by omega)
      have sr := shl_rng (k := i) (n := 31) (by omega) (by omega) (by omega)
      have eg : sto' (fun q => bt s q && decide (tq (c 79) x q = t)) (i + 1) = if (bt s i && decide (tq (c 79) x i = t)) = true then ior g (ishl 1 i) else g := by
        rw [hI2.2.2]; exact foldI_succ (by omega)
      have e0 : ior g 0 = g := ior_0 hI2.2.1.1 hI2.2.1.2
      refine W_X12_worst_18 (Q := fun Z => Z = some (some (vI (if nee (c 79) (c 104) s x = -1 then 100000000 else nee (c 79) (c 104) s x - 1)), (SH T, c))) ⟨fun _ => ⟨fun e => ⟨by omega, fun e2 => ⟨by omega, ih2 _ ⟨by omega, ior_rng (n := 31) (by omega) hI2.2.1.1 hI2.2.1.2 sr.1 sr.2, ?_⟩⟩, fun e2 => ⟨by omega, ih2 _ ⟨by omega, by rw [e0]; exact hI2.2.1, ?_⟩⟩⟩, fun e => ⟨by omega, ih2 _ ⟨by omega, by rw [e0]; exact hI2.2.1, ?_⟩⟩⟩, fun z => absurd hi2 z⟩
      · rw [eg, bi.mp e, decide_eq_true (show tq (c 79) x i = t from e2), if_pos (show (true && true) = true from rfl)]
      · rw [eg, decide_eq_false (show ¬ tq (c 79) x i = t from e2), Bool.and_false, if_neg (by decide), e0]
      · rw [eg, if_neg, e0]
        intro z
        exact e (bi.mpr ((Bool.and_eq_true _ _).mp z).1)
    · intro i g hi2 hI2
      have e5 : i = c 79 5 := by omega
      have eg : g = grp (c 79) s x t := by rw [hI2.2.2, e5]; rfl
      refine W_X12_worst_18 (Q := fun Z => Z = some (some (vI (if nee (c 79) (c 104) s x = -1 then 100000000 else nee (c 79) (c 104) s x - 1)), (SH T, c))) ⟨fun z => absurd z (by omega), fun _ => ⟨fun e => ?_, fun e => ?_⟩⟩
      · rcases nee_cases hR (x := x) hs.1 hD with ⟨_, z⟩ | ⟨hg2, _⟩
        · rw [if_pos z]
        · exact absurd (by rw [← eg]; exact e) (hg2 t ht.1 hi)
      · have nxy : ∀ t', 0 ≤ t' → t' < t + 1 → grp (c 79) s x t' ≠ s := fun t' a b => by
          by_cases q : t' = t
          · rw [q, ← eg]; exact e
          · exact hg t' a (by omega)
        rw [eg] at e ⊢
        refine ⟨fun e0 => ⟨by omega, ih _ ⟨by omega, ?_, nxy⟩⟩, fun e0 => ⟨by omega, fun e1 => ⟨by omega, ih _ ⟨by omega, ?_, nxy⟩⟩, fun e1 => ⟨by omega, ih _ ⟨by omega, ?_, nxy⟩⟩⟩⟩
        · rw [es]; unfold mxf; rw [if_neg (fun z => z.1 e0)]
        · rw [es]; unfold mxf; rw [if_pos ⟨e0, e1⟩]
        · rw [es]; unfold mxf; rw [if_neg (fun z => e1 z.2)]
  · intro t m hi hI
    obtain ⟨ht, em, hg⟩ := hI
    have e10 : t = 10 := by omega
    subst e10
    refine W_X12_worst_5 (Q := fun Z => Z = some (some (vI (if nee (c 79) (c 104) s x = -1 then 100000000 else nee (c 79) (c 104) s x - 1)), (SH T, c))) ⟨fun z => absurd z (by omega), fun _ => ?_⟩
    rcases nee_cases hR (x := x) hs.1 hD with ⟨⟨t', a, b, z⟩, _⟩ | ⟨_, z, z1, _⟩
    · exact absurd z (hg t' a b)
    · rw [if_neg (by omega), z, em, show mxt (c 79) (c 104) s x + 1 - 1 = mxt (c 79) (c 104) s x from by omega]
      rfl
def lea (p : Int × Int) : Int := if p.2 = -1 then 100000000 else p.1 - 1
theorem bsf_no {R D : Int → Int} {s x : Int} {p : Int × Int} (h : nee R D s x = -1) : bsf R D s x p = p := if_pos h
theorem bsf_in {R D : Int → Int} {s x : Int} {p : Int × Int} (h : nee R D s x ≠ -1) (h2 : p.2 = -1 ∨ nee R D s x < p.1) : bsf R D s x p = (nee R D s x, x) := (if_neg h).trans (if_pos h2)
theorem bsf_out {R D : Int → Int} {s x : Int} {p : Int × Int} (h : nee R D s x ≠ -1) (h2 : ¬ (p.2 = -1 ∨ nee R D s x < p.1)) : bsf R D s x p = p := (if_neg h).trans (if_neg h2)
theorem lea_lt {R D : Int → Int} {s x : Int} {p : Int × Int} (h : nee R D s x ≠ -1) (hx : 0 ≤ x) (h2 : nee R D s x - 1 < lea p) : nee R D s x - 1 = lea (bsf R D s x p) := by
  rw [bsf_in h]
  · unfold lea
    show _ = if x = -1 then _ else nee R D s x - 1
    rw [if_neg (by omega)]
  · unfold lea at h2
    by_cases f : p.2 = -1
    · exact .inl f
    · rw [if_neg f] at h2; exact .inr (by omega)
theorem lea_ge {R D : Int → Int} {s x : Int} {p : Int × Int} (h : nee R D s x ≠ -1) (hb : nee R D s x ≤ 64) (h2 : ¬ nee R D s x - 1 < lea p) : lea p = lea (bsf R D s x p) := by
  rw [bsf_out h]
  intro f
  unfold lea at h2
  by_cases q : p.2 = -1
  · rw [if_pos q] at h2; omega
  · rw [if_neg q] at h2
    rcases f with f | f
    · exact q f
    · omega
theorem lea_le {p : Int × Int} (h : p.2 = -1 ∨ p.1 ≤ 64) : lea p ≤ 100000000 := by
  unfold lea
  split <;> omega
theorem r_findDepths {T : List Shp} {c : Cm} {F : List Clz} (h : RWd c F) : QV T (fun c' => HD (c 79) (c' 104) (ishl 1 (c 79 5)) ∧ Off [104] [] c c') (ccal 300 [vR 78] (SH T, c)) := by
  have hR := h.1
  have h1 := hR.1
  have sp := shl_pow (n := c 79 5) (by omega) (by omega)
  have p6 := p2le (i := (c 79 5).toNat) (j := 6) (by omega)
  have p1 := p2le (i := 0) (j := (c 79 5).toNat) (by omega)
  refine W_X12_findDepths (Q := QV T _) ?_
  generalize hN : ishl 1 (c 79 5) = N at sp
  refine lpI (E := fun s (c' : Cm) => cev 300 3 2 [vR 78, vI s, vU, vU, vU] [] (SH T, c')) (fun s c' => (1 ≤ s ∧ s ≤ N) ∧ Off [104] [] c c' ∧ HD (c 79) (c' 104) s) N ?_ ?_ 1 c ⟨by omega, Off.rfl, fun j a b => by omega⟩
  · intro s c' hi hI ih
    obtain ⟨hs, o, hH⟩ := hI
    have hD := hH.db hR
    have hw := h.off o rfl
    have er : c' 79 = c 79 := o.row rfl
    refine W_X12_findDepths_2 ?_
    rw [er, hN]
    refine ⟨fun _ => ?_, fun z => absurd hi z⟩
    refine lpI (E := fun i (v : Int) => cev 300 3 20 [vR 78, vI s, vI v, vI i, vU] [] (SH T, c')) (fun i v => (0 ≤ i ∧ i ≤ 12) ∧ v = lea (bst (c 79) (c' 104) s i)) 12 ?_ ?_ 0 100000000 ⟨by omega, rfl⟩
    · intro i v hi2 hV ih2
      have es : bst (c 79) (c' 104) s (i + 1) = bsf (c 79) (c' 104) s i (bst (c 79) (c' 104) s i) := foldI_succ (by omega)
      have sp2 := bst_spec hR hs.1 hD (n := i) (by omega)
      have ec := nee_cases hR (x := i) hs.1 hD
      refine W_X12_findDepths_20 ⟨fun _ => QI.of_eq (r_worst hw (by rw [er]; omega) hD (by omega)) ?_, fun z => absurd hi2 z⟩
      rw [er]
      by_cases e : nee (c 79) (c' 104) s i = -1
      · rw [if_pos e]
        refine ⟨fun z => ?_, fun z => ⟨by omega, ih2 _ ⟨by omega, ?_⟩⟩⟩
        · rw [hV.2] at z
          have := lea_le (p := bst (c 79) (c' 104) s i) (by rcases sp2 with ⟨y, _⟩ | ⟨_, _, y, _⟩; exact .inl y; exact .inr (by omega))
          clear sp2 ec
          omega
        · rw [es, bsf_no e]; exact hV.2
      · rw [if_neg e]
        have nb : nee (c 79) (c' 104) s i ≤ 64 := by
          rcases ec with ⟨_, y⟩ | ⟨_, _, _, y⟩
          · exact absurd y e
          · omega
        clear ec sp2
        refine ⟨fun z => ⟨by omega, ih2 _ ⟨by omega, ?_⟩⟩, fun z => ⟨by omega, ih2 _ ⟨by omega, ?_⟩⟩⟩
        · rw [es]; rw [hV.2] at z
          exact lea_lt e hV.1.1 z
        · rw [es]; rw [hV.2] at z ⊢
          exact lea_ge e nb z
    · intro i v hi2 hV
      have e12 : i = 12 := by omega
      subst e12
      have e1 := hH.bst hR (n := 12) hs.1
      have sp2 := bst_spec hR hs.1 hD (n := 12) (by omega)
      have nxy : ∀ w, w = dep (c 79) s → HD (c 79) ((up c' 104 s w) 104) (s + 1) := fun w ew j a b => by
        rw [up_at]
        by_cases ej : j = s
        · rw [if_pos ej, ew, ej]
        · rw [if_neg ej]; exact hH j a (by omega)
      have ed : dep (c 79) s = (bst (c 79) (c' 104) s 12).1 := by rw [e1]; rfl
      refine W_X12_findDepths_20 ⟨fun z => absurd z (by omega), fun _ => ⟨fun e => ⟨by omega, ih _ ⟨by omega, o.wr rfl, nxy _ ?_⟩⟩, fun e => ⟨?_, ih _ ⟨by omega, o.wr rfl, nxy _ ?_⟩⟩⟩⟩
      · rw [hV.2] at e
        unfold lea at e
        by_cases f : (bst (c 79) (c' 104) s 12).2 = -1
        · omega
        · rw [if_neg f] at e; omega
      · rw [hV.2] at e ⊢
        unfold lea at e ⊢
        by_cases f : (bst (c 79) (c' 104) s 12).2 = -1
        · rw [if_pos f] at e; exact absurd rfl e
        · rw [if_neg f]; omega
      · rw [hV.2] at e ⊢
        unfold lea at e ⊢
        by_cases f : (bst (c 79) (c' 104) s 12).2 = -1
        · rw [if_pos f] at e; exact absurd rfl e
        · rw [if_neg f]; omega
  · intro s c' hi hI
    obtain ⟨hs, o, hH⟩ := hI
    have : s = N := by omega
    subst this
    have er : c' 79 = c 79 := o.row rfl
    refine W_X12_findDepths_2 ?_
    rw [er, hN]
    exact ⟨fun z => absurd z (by omega), fun _ => QV.ret ⟨hH, o⟩⟩
theorem r_know {T : List Shp} {c : Cm} {F : List Clz} {w : Int} (h : RWd c F) : QI T (fun r c' => r = knw (c 79) w ∧ Off [104] [0] c c') (ccal 301 [vR 78, vI w] (SH T, c)) := by
  have hR := h.1
  have h1 := hR.1
  have sp := shl_pow (n := c 79 5) (by omega) (by omega)
  have p6 := p2le (i := (c 79 5).toNat) (j := 6) (by omega)
  have o0 : Off [104] [0] c (up c 77 0 0) := Off.rfl.wr rfl
  have hw := h.off o0 rfl
  have er : (up c 77 0 0) 79 = c 79 := o0.row rfl
  have p1 : 1 ≤ c 79 5 → 2 ^ 1 ≤ 2 ^ (c 79 5).toNat := fun z => p2le (by omega)
  have p0 : c 79 5 = 0 → 2 ^ (c 79 5).toNat = 1 := fun z => by rw [z]; rfl
  have ek : ∀ N, ishl 1 (c 79 5) = N → knw (c 79) w = if ¬ (0 ≤ w ∧ w < 2) ∨ c 79 5 = 0 then -1 else if w = 0 then dep (c 79) (N - 1) else (bst (c 79) (DF (c 79) (N - 1)) (N - 1) 12).2 := fun N e => by rw [← e]; rfl
  refine W_X12_know (Q := QI T _) ?_
  generalize hN : ishl 1 (c 79 5) = N at sp ek
  rw [ek N rfl]
  refine ⟨by omega, fun e => ⟨fun e2 => QI.ret ⟨?_, o0⟩, fun e2 => ?_⟩, fun e => QI.ret ⟨?_, o0⟩⟩
  · rw [if_pos (.inr (by omega))]
  · refine (r_findDepths hw).mono fun c1 h2 => ?_
    rw [er, hN] at h2
    have o1 := o0.trans (h2.2.mono rfl rfl)
    have er1 : c1 79 = c 79 := o1.row rfl
    have hw1 := h.off o1 rfl
    have n0 : c 79 5 ≠ 0 := fun z => by have := p0 z; omega
    have hN1 := p1 (by omega)
    have hd : c1 104 (N - 1) = dep (c 79) (N - 1) := h2.1 (N - 1) (by omega) (by omega)
    have hH : HD (c 79) (c1 104) (N - 1) := fun j a b => h2.1 j a (by omega)
    have hD := hH.db hR
    have e1 := hH.bst hR (n := 12) (by omega)
    have sp2 := bst_spec hR (s := N - 1) (by omega) hD (n := 12) (by omega)
    have ed : dep (c 79) (N - 1) = (bst (c 79) (c1 104) (N - 1) 12).1 := by rw [e1]; rfl
    have dbd := dep_bd hR (N - 1) (by omega)
    rw [if_neg (by omega), ← e1]
    refine ⟨fun e3 => ?_, fun e3 => ⟨by omega, fun e4 => ?_, fun e4 => ?_⟩⟩
    · rw [if_pos e3]
      exact W_X12_know_49 ⟨fun _ => ⟨by omega, QI.ret ⟨hd, o1⟩⟩, fun z => absurd e3 z⟩
    · rw [if_neg e3]
      refine W_X12_know_49 ⟨fun z => absurd z e3, fun _ => QI.ret ⟨?_, o1⟩⟩
      omega
    · rw [if_neg e3]
      have hb : (0 ≤ (bst (c 79) (c1 104) (N - 1) 12).2 ∧ (bst (c 79) (c1 104) (N - 1) 12).2 < 12) ∧ nee (c 79) (c1 104) (N - 1) (bst (c 79) (c1 104) (N - 1) 12).2 = (bst (c 79) (c1 104) (N - 1) 12).1 ∧ 1 ≤ (bst (c 79) (c1 104) (N - 1) 12).1 ∧ ∀ x, 0 ≤ x → x < (bst (c 79) (c1 104) (N - 1) 12).2 → nee (c 79) (c1 104) (N - 1) x ≠ (bst (c 79) (c1 104) (N - 1) 12).1 := by
        rcases sp2 with ⟨_, z, _⟩ | ⟨z1, z2, z3, _, z5⟩
        · omega
        · exact ⟨z1, z2, z3.1, z5⟩
      refine lpI (E := fun i (_ : Unit) => cev 301 4 66 [vR 78, vU, vI (N - 1), vI i] [] (SH T, c1)) (fun i _ => 0 ≤ i ∧ i ≤ (bst (c 79) (c1 104) (N - 1) 12).2) 12 ?_ ?_ 0 () ⟨by omega, hb.1.1⟩
      · intro i _ hi hI ih
        refine W_X12_know_66 (QI.of_eq (r_worst hw1 (by rw [er1]; omega) hD (by omega)) ?_)
        rw [er1]
        by_cases z : nee (c 79) (c1 104) (N - 1) i = -1
        · rw [if_pos z]
          refine ⟨by omega, fun e5 => by omega, fun e5 => ⟨by omega, ih () ⟨by omega, ?_⟩⟩⟩
          by_cases q : i = (bst (c 79) (c1 104) (N - 1) 12).2
          · rw [← q] at hb; omega
          · omega
        · rw [if_neg z]
          have zb : 1 ≤ nee (c 79) (c1 104) (N - 1) i ∧ nee (c 79) (c1 104) (N - 1) i ≤ N - 1 := by
            rcases nee_cases hR (s := N - 1) (x := i) (by omega) hD with ⟨_, y⟩ | ⟨_, _, y⟩
            · exact absurd y z
            · exact y
          refine ⟨by omega, fun e5 => QI.ret ⟨?_, o1⟩, fun e5 => ⟨by omega, ih () ⟨by omega, ?_⟩⟩⟩
          · by_cases q : i = (bst (c 79) (c1 104) (N - 1) 12).2
            · exact q
            · exact absurd (by omega) (hb.2.2.2 i hI.1 (by omega))
          · by_cases q : i = (bst (c 79) (c1 104) (N - 1) 12).2
            · rw [← q] at hb; omega
            · omega
      · intro i _ hi hI
        omega
  · rw [if_pos (.inl (by omega))]
