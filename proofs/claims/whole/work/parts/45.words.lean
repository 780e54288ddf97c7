/-! WORDS: the class's letters against the reference's numbers to base 32 -/
/-- the first n letters as a number to base 32 -/
def vl (f : Int → Int) : Nat → Int
  | 0 => 0
  | n + 1 => vl f n * 32 + f n - 96
theorem vl_pos {f : Int → Int} {n : Nat} (h : ∀ i : Nat, i < n → 97 ≤ f i ∧ f i ≤ 122) : 0 ≤ vl f n ∧ (0 < n → 1 ≤ vl f n) := by
  induction n with
  | zero => exact ⟨Int.le_refl _, fun z => absurd z (by decide)⟩
  | succ n ih =>
    have h1 := ih fun i a => h i (by omega)
    have h2 := h n (by omega)
    show 0 ≤ vl f n * 32 + f n - 96 ∧ (0 < n + 1 → 1 ≤ vl f n * 32 + f n - 96)
    omega
theorem vl_inj {f g : Int → Int} : ∀ {n m : Nat}, (∀ i : Nat, i < n → 97 ≤ f i ∧ f i ≤ 122) → (∀ i : Nat, i < m → 97 ≤ g i ∧ g i ≤ 122) → vl f n = vl g m → n = m ∧ ∀ i : Nat, i < n → f i = g i := by
  intro n
  induction n with
  | zero =>
    intro m hf hg h
    have h2 := vl_pos hg
    have h3 : vl f 0 = 0 := rfl
    exact ⟨by omega, fun i a => absurd a (by omega)⟩
  | succ n ih =>
    intro m hf hg h
    cases m with
    | zero =>
      have h2 := vl_pos hf
      have h3 : vl g 0 = 0 := rfl
      exact absurd h2 (by omega)
    | succ m =>
      have e1 : vl f (n + 1) = vl f n * 32 + f n - 96 := rfl
      have e2 : vl g (m + 1) = vl g m * 32 + g m - 96 := rfl
      have a := hf n (by omega)
      have b := hg m (by omega)
      have h4 := ih (fun i a => hf i (by omega)) (fun i a => hg i (by omega)) (show vl f n = vl g m by omega)
      refine ⟨by omega, fun i a => ?_⟩
      by_cases e : i = n
      · subst e
        have h5 : f (i : Int) = g (m : Int) := by omega
        rw [h5, h4.1]
      · exact h4.2 i (by omega)
theorem vl_congr {f g : Int → Int} {n : Nat} (h : ∀ i : Nat, i < n → f i = g i) : vl f n = vl g n := by
  induction n with
  | zero => rfl
  | succ n ih =>
    show vl f n * 32 + f n - 96 = vl g n * 32 + g n - 96
    rw [ih fun i a => h i (by omega), h n (by omega)]
/-- a word's worth: by its letters, -1 beyond 10 -/
theorem wo_vl {B : Int → Int} {L p : Int} (hL : p < L) (hk : kof (B p) = 0) : p < en B L p ∧ (∀ j, p ≤ j → j < en B L p → 97 ≤ B j ∧ B j ≤ 122) ∧ (en B L p - p ≤ 10 → wo B L p = vl (fun i => B (p + i)) (en B L p - p).toNat) ∧ (10 < en B L p - p → wo B L p = -1) := by
  have e1 : wo B L p = (whl L (okd B 0) (wdr B p) p 0).2 := by
    unfold wo
    rw [if_pos hL, if_neg (by omega), if_pos hk]
  have e2 : en B L p = (whl L (okd B 0) (wdr B p) p 0).1 := by
    unfold en
    rw [if_pos hL, if_neg (by omega), hk]
    exact whl_fst
  have h0 : p < en B L p := (en_bd (by omega)).2.2 hL
  rw [e1]
  rw [e2] at h0 ⊢
  refine ⟨h0, ?_⟩
  refine whl_ind (fun j v => p ≤ j ∧ (∀ i, p ≤ i → i < j → 97 ≤ B i ∧ B i ≤ 122) ∧ (j - p ≤ 10 → v = vl (fun i => B (p + i)) (j - p).toNat) ∧ (10 < j - p → v = -1)) (s := p) (a := (0 : Int)) ⟨Int.le_refl _, fun i a b => absurd a (by omega), fun _ => ?_, fun z => by omega⟩ ?_ |>.2
  · rw [show (p - p).toNat = 0 from by omega]; rfl
  · intro j b h1 h2 h3 ⟨h4, h5, h6, h7⟩
    have hk : kof (B j) = 0 := eq_of_beq h3
    have hl := kof_0.mp hk
    refine ⟨by omega, fun i a b => ?_, fun z => ?_, fun z => ?_⟩
    · by_cases e : i = j
      · subst e; exact hl
      · exact h5 i a (by omega)
    · unfold wdr
      rw [if_pos (by omega), h6 (by omega), show (j + 1 - p).toNat = (j - p).toNat + 1 from by omega]
      show _ = vl (fun i => B (p + i)) (j - p).toNat * 32 + B (p + ((j - p).toNat : Int)) - 96
      rw [show p + ((j - p).toNat : Int) = j from by omega]
    · unfold wdr
      rw [if_neg (by omega)]
/-- is the token at p the letters f .. t of the list S? -/
def mtb (S : List Int) (B : Int → Int) (L p f t : Int) : Bool := decide (kd B L p = 0) && (decide (t - f = en B L p - p) && allI (fun i => decide (S.getD (f + i).toNat 0 = B (p + i))) (t - f))
/-- is it the word of worth v? -/
def isw (B : Int → Int) (L p v : Int) : Prop := kd B L p = 0 ∧ wo B L p = v
theorem kd_0 {B : Int → Int} {L p : Int} : kd B L p = 0 ↔ p < L ∧ kof (B p) = 0 := by
  unfold kd
  by_cases h : p < L
  · rw [if_pos h]; exact ⟨fun e => ⟨h, e⟩, fun e => e.2⟩
  · rw [if_neg h]; exact ⟨fun e => absurd e (by decide), fun e => absurd e.1 h⟩
theorem mtb_iff {S : List Int} {B : Int → Int} {L p f t v : Int} (h0 : 0 ≤ f) (h1 : f ≤ t ∧ t - f ≤ 10) (h2 : ∀ i : Nat, i < (t - f).toNat → 97 ≤ S.getD (f + i).toNat 0 ∧ S.getD (f + i).toNat 0 ≤ 122) (h3 : vl (fun i => S.getD (f + i).toNat 0) (t - f).toNat = v) : mtb S B L p f t = true ↔ isw B L p v := by
  unfold mtb isw
  rw [Bool.and_eq_true, Bool.and_eq_true, decide_eq_true_eq, decide_eq_true_eq, allI_iff (by omega)]
  constructor
  · rintro ⟨a, b, q⟩
    refine ⟨a, ?_⟩
    have w := wo_vl (kd_0.mp a).1 (kd_0.mp a).2
    rw [w.2.2.1 (by omega), ← b, ← h3]
    exact vl_congr fun i hi => (of_decide_eq_true (q i (by omega) (by omega))).symm
  · rintro ⟨a, q⟩
    refine ⟨a, ?_⟩
    have w := wo_vl (kd_0.mp a).1 (kd_0.mp a).2
    have pv := vl_pos (f := fun i => S.getD (f + i).toNat 0) (n := (t - f).toNat) h2
    by_cases e : en B L p - p ≤ 10
    · have e1 := w.2.2.1 e
      rw [q, ← h3] at e1
      have := vl_inj h2 (fun i hi => w.2.1 (p + i) (by omega) (by omega)) e1
      exact ⟨by omega, fun i a b => decide_eq_true (by
        have := this.2 i.toNat (by omega)
        rw [show ((i.toNat : Nat) : Int) = i from by omega] at this
        exact this)⟩
    · have e1 := w.2.2.2 (by omega)
      omega
/-- place of v among words -/
def wix : List Int → Int → Int → Int
  | [], _, _ => -1
  | w :: ws, v, k => if v = w then k else wix ws v (k + 1)
def tkw (B : Int → Int) (L p : Int) (ws : List Int) : Int := if kd B L p = 0 then wix ws (wo B L p) 0 else -1
/-- the class's search in a list of words -/
def plc (S : List Int) (m : Int → Int → Bool) : Nat → Int → Int → Int → Int
  | 0, _, _, _ => -1
  | n + 1, x2, x3, x4 => if (S.length : Int) < x4 then -1 else if x4 = (S.length : Int) ∨ S.getD x4.toNat 0 = 32 then (if m x3 x4 = true then x2 else plc S m n (x2 + 1) (x4 + 1) (x4 + 1)) else plc S m n x2 x3 (x4 + 1)
theorem ifw {a b : Prop} [Decidable a] [Decidable b] (h : a ↔ b) {x y z : Int} (k : ¬ b → y = z) : (if a then x else y) = (if b then x else z) := by
  by_cases e : b
  · rw [if_pos e, if_pos (h.mpr e)]
  · rw [if_neg e, if_neg (fun z => e (h.mp z)), k e]
/-- the class's reader stands at token p -/
def EC (c : Cm) (B : Int → Int) (L p : Int) : Prop := c 48 1 = L ∧ c 10 = B ∧ BLt B L ∧ (0 ≤ p ∧ p ≤ L) ∧ TC c B L p
/-- is it the sign x? -/
def isg (B : Int → Int) (L p x : Int) : Prop := kd B L p = 2 ∧ B p = x
theorem kd_lt {B : Int → Int} {L p : Int} (h : ¬ kd B L p = 3) : p < L := by
  unfold kd at h
  by_cases e : p < L
  · exact e
  · rw [if_neg e] at h; exact absurd rfl h
theorem EC.next {T : List Shp} {c : Cm} {B : Int → Int} {L p : Int} (h : EC c B L p) : QV T (fun c' => Fr NXA c c' ∧ EC c' B L (nx B L p)) (ccal 62 [vR 49] (SH T, c)) := by
  obtain ⟨h1, h2, h3, h4, h5⟩ := h
  have eb := en_bd (B := B) h4.2
  have nb := nx_bd (B := B) h4.2
  have e6 := h5.2.2.1
  refine (c_next h1 h2 h3 (by omega)).mono fun c' hc => ?_
  rw [e6] at hc
  exact ⟨hc.1, (hc.1 48 1 (by unfold NXA; omega)).trans h1, (hc.1.cell (q := 10) (by intro j; unfold NXA; omega)).trans h2, h3, by omega, hc.2⟩
theorem c_isSign {T : List Shp} {c : Cm} {B : Int → Int} {L p x : Int} (h : EC c B L p) : QI T (fun r c' => c = c' ∧ (isg B L p x → r = 1) ∧ (¬ isg B L p x → r = 0)) (ccal 57 [vR 49, vI x] (SH T, c)) := by
  obtain ⟨h1, h2, h3, h4, h5⟩ := h
  obtain ⟨t4, t5, t6, t7⟩ := h5
  unfold isg
  refine W_X6_isSign (Q := QI T _) ⟨fun e => ⟨fun e2 => ⟨by have := h3.1; omega, ?_⟩, fun e2 => QI.ret ⟨rfl, fun z => ?_, fun z => rfl⟩⟩, fun e => QI.ret ⟨rfl, fun z => absurd (t4.trans z.1) e, fun _ => rfl⟩⟩
  · rw [h2, t5]
    exact ⟨fun e3 => QI.ret ⟨rfl, fun _ => rfl, fun z => absurd ⟨t4.symm.trans e, e3⟩ z⟩, fun e3 => QI.ret ⟨rfl, fun z => absurd z.2 e3, fun _ => rfl⟩⟩
  · have := kd_lt (show ¬ kd B L p = 3 by omega)
    omega
theorem c_takes {T : List Shp} {c : Cm} {B : Int → Int} {L p x : Int} (h : EC c B L p) : QI T (fun r c' => (isg B L p x → r = 1 ∧ Fr NXA c c' ∧ EC c' B L (nx B L p)) ∧ (¬ isg B L p x → r = 0 ∧ c = c')) (ccal 58 [vR 49, vI x] (SH T, c)) := by
  refine W_X6_takes (Q := QI T _) ((c_isSign (x := x) h).mono fun r c' hc => ?_)
  obtain ⟨rfl, k1, k2⟩ := hc
  by_cases e : isg B L p x
  · refine ⟨fun z => absurd (k1 e) (by omega), fun _ => h.next.mono fun c2 h2 => ⟨.inr (k1 e), QI.ret ⟨fun _ => ⟨k1 e, h2⟩, fun z => absurd e z⟩⟩⟩
  · exact ⟨fun _ => ⟨.inl (k2 e), QI.ret ⟨fun z => absurd z e, fun _ => ⟨k2 e, rfl⟩⟩⟩, fun z => absurd (k2 e) z⟩
theorem c_isSame0 {T : List Shp} {c : Cm} {B : Int → Int} {L p f t : Int} (h : EC c B L p) (hf : 0 ≤ f ∧ f ≤ t ∧ t ≤ 26) : ccal 61 [vR 49, vR (-100), vI f, vI t] (SH T, c) = some (some (vI (if mtb (strb 0) B L p f t = true then 1 else 0)), (SH T, c)) := by
  obtain ⟨h1, h2, h3, h4, t4, t5, t6, t7⟩ := h
  have eb := en_bd (B := B) h4.2
  have hb := h3.1
  refine W_X6_isSame_s0 (Q := fun Z => Z = some (some (vI (if mtb (strb 0) B L p f t = true then 1 else 0)), (SH T, c))) ⟨fun e => ⟨by omega, fun e2 => ?_, fun e2 => ?_⟩, fun e => ?_⟩
  · rw [t5, t6] at e2
    have em : mtb (strb 0) B L p f t = allI (fun i => decide ((strb 0).getD (f + i).toNat 0 = B (p + i))) (t - f) := by
      unfold mtb
      rw [decide_eq_true (t4.symm.trans e), decide_eq_true e2]
      rfl
    rw [em]
    refine lpI (Q := fun Z => Z = some (some (vI (if allI (fun i => decide ((strb 0).getD (f + i).toNat 0 = B (p + i))) (t - f) = true then 1 else 0)), (SH T, c))) (E := fun i (_ : Unit) => cev 61 5 27 [vR 49, vR (-100), vI f, vI t, vI i] [] (SH T, c)) (fun i _ => (0 ≤ i ∧ i ≤ t - f) ∧ ∀ k, 0 ≤ k → k < i → (strb 0).getD (f + k).toNat 0 = B (p + k)) (t - f) ?_ ?_ 0 () ⟨by omega, fun k a b => absurd a (by omega)⟩
    · rintro i _ hi ⟨ib, hk⟩ ih
      refine W_X6_isSame_s0_27 (Q := fun Z => Z = _) ⟨by omega, fun _ => ⟨by omega, fun e3 => ⟨by omega, ih () ⟨by omega, fun k a b => ?_⟩⟩, fun e3 => ?_⟩, fun z => absurd hi z⟩
      · by_cases e4 : k = i
        · subst e4; rw [h2, t5] at e3; exact e3
        · exact hk k a (by omega)
      · rw [h2, t5] at e3
        rw [if_neg]
        rw [allI_iff (by omega)]
        exact fun z => e3 (of_decide_eq_true (z i (by omega) hi))
    · rintro i _ hi ⟨ib, hk⟩
      refine W_X6_isSame_s0_27 (Q := fun Z => Z = _) ⟨by omega, fun z => absurd z (by omega), fun _ => ?_⟩
      rw [if_pos]
      rw [allI_iff (by omega)]
      exact fun k a b => decide_eq_true (hk k a (by omega))
  · rw [t5, t6] at e2
    rw [if_neg]
    unfold mtb
    rw [Bool.and_eq_true, Bool.and_eq_true, decide_eq_true_eq, decide_eq_true_eq]
    exact fun z => e2 z.2.1
  · rw [if_neg]
    unfold mtb
    rw [Bool.and_eq_true, decide_eq_true_eq]
    exact fun z => e (t4.trans z.1)
theorem c_isSame1 {T : List Shp} {c : Cm} {B : Int → Int} {L p f t : Int} (h : EC c B L p) (hf : 0 ≤ f ∧ f ≤ t ∧ t ≤ 23) : ccal 61 [vR 49, vR (-101), vI f, vI t] (SH T, c) = some (some (vI (if mtb (strb 1) B L p f t = true then 1 else 0)), (SH T, c)) := by
  obtain ⟨h1, h2, h3, h4, t4, t5, t6, t7⟩ := h
  have eb := en_bd (B := B) h4.2
  have hb := h3.1
  refine W_X6_isSame_s1 (Q := fun Z => Z = some (some (vI (if mtb (strb 1) B L p f t = true then 1 else 0)), (SH T, c))) ⟨fun e => ⟨by omega, fun e2 => ?_, fun e2 => ?_⟩, fun e => ?_⟩
  · rw [t5, t6] at e2
    have em : mtb (strb 1) B L p f t = allI (fun i => decide ((strb 1).getD (f + i).toNat 0 = B (p + i))) (t - f) := by
      unfold mtb
      rw [decide_eq_true (t4.symm.trans e), decide_eq_true e2]
      rfl
    rw [em]
    refine lpI (Q := fun Z => Z = some (some (vI (if allI (fun i => decide ((strb 1).getD (f + i).toNat 0 = B (p + i))) (t - f) = true then 1 else 0)), (SH T, c))) (E := fun i (_ : Unit) => cev 61 5 27 [vR 49, vR (-101), vI f, vI t, vI i] [] (SH T, c)) (fun i _ => (0 ≤ i ∧ i ≤ t - f) ∧ ∀ k, 0 ≤ k → k < i → (strb 1).getD (f + k).toNat 0 = B (p + k)) (t - f) ?_ ?_ 0 () ⟨by omega, fun k a b => absurd a (by omega)⟩
    · rintro i _ hi ⟨ib, hk⟩ ih
      refine W_X6_isSame_s1_27 (Q := fun Z => Z = _) ⟨by omega, fun _ => ⟨by omega, fun e3 => ⟨by omega, ih () ⟨by omega, fun k a b => ?_⟩⟩, fun e3 => ?_⟩, fun z => absurd hi z⟩
      · by_cases e4 : k = i
        · subst e4; rw [h2, t5] at e3; exact e3
        · exact hk k a (by omega)
      · rw [h2, t5] at e3
        rw [if_neg]
        rw [allI_iff (by omega)]
        exact fun z => e3 (of_decide_eq_true (z i (by omega) hi))
    · rintro i _ hi ⟨ib, hk⟩
      refine W_X6_isSame_s1_27 (Q := fun Z => Z = _) ⟨by omega, fun z => absurd z (by omega), fun _ => ?_⟩
      rw [if_pos]
      rw [allI_iff (by omega)]
      exact fun k a b => decide_eq_true (hk k a (by omega))
  · rw [t5, t6] at e2
    rw [if_neg]
    unfold mtb
    rw [Bool.and_eq_true, Bool.and_eq_true, decide_eq_true_eq, decide_eq_true_eq]
    exact fun z => e2 z.2.1
  · rw [if_neg]
    unfold mtb
    rw [Bool.and_eq_true, decide_eq_true_eq]
    exact fun z => e (t4.trans z.1)
theorem c_isSame2 {T : List Shp} {c : Cm} {B : Int → Int} {L p f t : Int} (h : EC c B L p) (hf : 0 ≤ f ∧ f ≤ t ∧ t ≤ 18) : ccal 61 [vR 49, vR (-102), vI f, vI t] (SH T, c) = some (some (vI (if mtb (strb 2) B L p f t = true then 1 else 0)), (SH T, c)) := by
  obtain ⟨h1, h2, h3, h4, t4, t5, t6, t7⟩ := h
  have eb := en_bd (B := B) h4.2
  have hb := h3.1
  refine W_X6_isSame_s2 (Q := fun Z => Z = some (some (vI (if mtb (strb 2) B L p f t = true then 1 else 0)), (SH T, c))) ⟨fun e => ⟨by omega, fun e2 => ?_, fun e2 => ?_⟩, fun e => ?_⟩
  · rw [t5, t6] at e2
    have em : mtb (strb 2) B L p f t = allI (fun i => decide ((strb 2).getD (f + i).toNat 0 = B (p + i))) (t - f) := by
      unfold mtb
      rw [decide_eq_true (t4.symm.trans e), decide_eq_true e2]
      rfl
    rw [em]
    refine lpI (Q := fun Z => Z = some (some (vI (if allI (fun i => decide ((strb 2).getD (f + i).toNat 0 = B (p + i))) (t - f) = true then 1 else 0)), (SH T, c))) (E := fun i (_ : Unit) => cev 61 5 27 [vR 49, vR (-102), vI f, vI t, vI i] [] (SH T, c)) (fun i _ => (0 ≤ i ∧ i ≤ t - f) ∧ ∀ k, 0 ≤ k → k < i → (strb 2).getD (f + k).toNat 0 = B (p + k)) (t - f) ?_ ?_ 0 () ⟨by omega, fun k a b => absurd a (by omega)⟩
    · rintro i _ hi ⟨ib, hk⟩ ih
      refine W_X6_isSame_s2_27 (Q := fun Z => Z = _) ⟨by omega, fun _ => ⟨by omega, fun e3 => ⟨by omega, ih () ⟨by omega, fun k a b => ?_⟩⟩, fun e3 => ?_⟩, fun z => absurd hi z⟩
      · by_cases e4 : k = i
        · subst e4; rw [h2, t5] at e3; exact e3
        · exact hk k a (by omega)
      · rw [h2, t5] at e3
        rw [if_neg]
        rw [allI_iff (by omega)]
        exact fun z => e3 (of_decide_eq_true (z i (by omega) hi))
    · rintro i _ hi ⟨ib, hk⟩
      refine W_X6_isSame_s2_27 (Q := fun Z => Z = _) ⟨by omega, fun z => absurd z (by omega), fun _ => ?_⟩
      rw [if_pos]
      rw [allI_iff (by omega)]
      exact fun k a b => decide_eq_true (hk k a (by omega))
  · rw [t5, t6] at e2
    rw [if_neg]
    unfold mtb
    rw [Bool.and_eq_true, Bool.and_eq_true, decide_eq_true_eq, decide_eq_true_eq]
    exact fun z => e2 z.2.1
  · rw [if_neg]
    unfold mtb
    rw [Bool.and_eq_true, decide_eq_true_eq]
    exact fun z => e (t4.trans z.1)
theorem c_isSame3 {T : List Shp} {c : Cm} {B : Int → Int} {L p f t : Int} (h : EC c B L p) (hf : 0 ≤ f ∧ f ≤ t ∧ t ≤ 2) : ccal 61 [vR 49, vR (-103), vI f, vI t] (SH T, c) = some (some (vI (if mtb (strb 3) B L p f t = true then 1 else 0)), (SH T, c)) := by
  obtain ⟨h1, h2, h3, h4, t4, t5, t6, t7⟩ := h
  have eb := en_bd (B := B) h4.2
  have hb := h3.1
  refine W_X6_isSame_s3 (Q := fun Z => Z = some (some (vI (if mtb (strb 3) B L p f t = true then 1 else 0)), (SH T, c))) ⟨fun e => ⟨by omega, fun e2 => ?_, fun e2 => ?_⟩, fun e => ?_⟩
  · rw [t5, t6] at e2
    have em : mtb (strb 3) B L p f t = allI (fun i => decide ((strb 3).getD (f + i).toNat 0 = B (p + i))) (t - f) := by
      unfold mtb
      rw [decide_eq_true (t4.symm.trans e), decide_eq_true e2]
      rfl
    rw [em]
    refine lpI (Q := fun Z => Z = some (some (vI (if allI (fun i => decide ((strb 3).getD (f + i).toNat 0 = B (p + i))) (t - f) = true then 1 else 0)), (SH T, c))) (E := fun i (_ : Unit) => cev 61 5 27 [vR 49, vR (-103), vI f, vI t, vI i] [] (SH T, c)) (fun i _ => (0 ≤ i ∧ i ≤ t - f) ∧ ∀ k, 0 ≤ k → k < i → (strb 3).getD (f + k).toNat 0 = B (p + k)) (t - f) ?_ ?_ 0 () ⟨by omega, fun k a b => absurd a (by omega)⟩
    · rintro i _ hi ⟨ib, hk⟩ ih
      refine W_X6_isSame_s3_27 (Q := fun Z => Z = _) ⟨by omega, fun _ => ⟨by omega, fun e3 => ⟨by omega, ih () ⟨by omega, fun k a b => ?_⟩⟩, fun e3 => ?_⟩, fun z => absurd hi z⟩
      · by_cases e4 : k = i
        · subst e4; rw [h2, t5] at e3; exact e3
        · exact hk k a (by omega)
      · rw [h2, t5] at e3
        rw [if_neg]
        rw [allI_iff (by omega)]
        exact fun z => e3 (of_decide_eq_true (z i (by omega) hi))
    · rintro i _ hi ⟨ib, hk⟩
      refine W_X6_isSame_s3_27 (Q := fun Z => Z = _) ⟨by omega, fun z => absurd z (by omega), fun _ => ?_⟩
      rw [if_pos]
      rw [allI_iff (by omega)]
      exact fun k a b => decide_eq_true (hk k a (by omega))
  · rw [t5, t6] at e2
    rw [if_neg]
    unfold mtb
    rw [Bool.and_eq_true, Bool.and_eq_true, decide_eq_true_eq, decide_eq_true_eq]
    exact fun z => e2 z.2.1
  · rw [if_neg]
    unfold mtb
    rw [Bool.and_eq_true, decide_eq_true_eq]
    exact fun z => e (t4.trans z.1)
theorem c_isSame4 {T : List Shp} {c : Cm} {B : Int → Int} {L p f t : Int} (h : EC c B L p) (hf : 0 ≤ f ∧ f ≤ t ∧ t ≤ 4) : ccal 61 [vR 49, vR (-104), vI f, vI t] (SH T, c) = some (some (vI (if mtb (strb 4) B L p f t = true then 1 else 0)), (SH T, c)) := by
  obtain ⟨h1, h2, h3, h4, t4, t5, t6, t7⟩ := h
  have eb := en_bd (B := B) h4.2
  have hb := h3.1
  refine W_X6_isSame_s4 (Q := fun Z => Z = some (some (vI (if mtb (strb 4) B L p f t = true then 1 else 0)), (SH T, c))) ⟨fun e => ⟨by omega, fun e2 => ?_, fun e2 => ?_⟩, fun e => ?_⟩
  · rw [t5, t6] at e2
    have em : mtb (strb 4) B L p f t = allI (fun i => decide ((strb 4).getD (f + i).toNat 0 = B (p + i))) (t - f) := by
      unfold mtb
      rw [decide_eq_true (t4.symm.trans e), decide_eq_true e2]
      rfl
    rw [em]
    refine lpI (Q := fun Z => Z = some (some (vI (if allI (fun i => decide ((strb 4).getD (f + i).toNat 0 = B (p + i))) (t - f) = true then 1 else 0)), (SH T, c))) (E := fun i (_ : Unit) => cev 61 5 27 [vR 49, vR (-104), vI f, vI t, vI i] [] (SH T, c)) (fun i _ => (0 ≤ i ∧ i ≤ t - f) ∧ ∀ k, 0 ≤ k → k < i → (strb 4).getD (f + k).toNat 0 = B (p + k)) (t - f) ?_ ?_ 0 () ⟨by omega, fun k a b => absurd a (by omega)⟩
    · rintro i _ hi ⟨ib, hk⟩ ih
      refine W_X6_isSame_s4_27 (Q := fun Z => Z = _) ⟨by omega, fun _ => ⟨by omega, fun e3 => ⟨by omega, ih () ⟨by omega, fun k a b => ?_⟩⟩, fun e3 => ?_⟩, fun z => absurd hi z⟩
      · by_cases e4 : k = i
        · subst e4; rw [h2, t5] at e3; exact e3
        · exact hk k a (by omega)
      · rw [h2, t5] at e3
        rw [if_neg]
        rw [allI_iff (by omega)]
        exact fun z => e3 (of_decide_eq_true (z i (by omega) hi))
    · rintro i _ hi ⟨ib, hk⟩
      refine W_X6_isSame_s4_27 (Q := fun Z => Z = _) ⟨by omega, fun z => absurd z (by omega), fun _ => ?_⟩
      rw [if_pos]
      rw [allI_iff (by omega)]
      exact fun k a b => decide_eq_true (hk k a (by omega))
  · rw [t5, t6] at e2
    rw [if_neg]
    unfold mtb
    rw [Bool.and_eq_true, Bool.and_eq_true, decide_eq_true_eq, decide_eq_true_eq]
    exact fun z => e2 z.2.1
  · rw [if_neg]
    unfold mtb
    rw [Bool.and_eq_true, decide_eq_true_eq]
    exact fun z => e (t4.trans z.1)
theorem c_isSame5 {T : List Shp} {c : Cm} {B : Int → Int} {L p f t : Int} (h : EC c B L p) (hf : 0 ≤ f ∧ f ≤ t ∧ t ≤ 5) : ccal 61 [vR 49, vR (-105), vI f, vI t] (SH T, c) = some (some (vI (if mtb (strb 5) B L p f t = true then 1 else 0)), (SH T, c)) := by
  obtain ⟨h1, h2, h3, h4, t4, t5, t6, t7⟩ := h
  have eb := en_bd (B := B) h4.2
  have hb := h3.1
  refine W_X6_isSame_s5 (Q := fun Z => Z = some (some (vI (if mtb (strb 5) B L p f t = true then 1 else 0)), (SH T, c))) ⟨fun e => ⟨by omega, fun e2 => ?_, fun e2 => ?_⟩, fun e => ?_⟩
  · rw [t5, t6] at e2
    have em : mtb (strb 5) B L p f t = allI (fun i => decide ((strb 5).getD (f + i).toNat 0 = B (p + i))) (t - f) := by
      unfold mtb
      rw [decide_eq_true (t4.symm.trans e), decide_eq_true e2]
      rfl
    rw [em]
    refine lpI (Q := fun Z => Z = some (some (vI (if allI (fun i => decide ((strb 5).getD (f + i).toNat 0 = B (p + i))) (t - f) = true then 1 else 0)), (SH T, c))) (E := fun i (_ : Unit) => cev 61 5 27 [vR 49, vR (-105), vI f, vI t, vI i] [] (SH T, c)) (fun i _ => (0 ≤ i ∧ i ≤ t - f) ∧ ∀ k, 0 ≤ k → k < i → (strb 5).getD (f + k).toNat 0 = B (p + k)) (t - f) ?_ ?_ 0 () ⟨by omega, fun k a b => absurd a (by omega)⟩
    · rintro i _ hi ⟨ib, hk⟩ ih
      refine W_X6_isSame_s5_27 (Q := fun Z => Z = _) ⟨by omega, fun _ => ⟨by omega, fun e3 => ⟨by omega, ih () ⟨by omega, fun k a b => ?_⟩⟩, fun e3 => ?_⟩, fun z => absurd hi z⟩
      · by_cases e4 : k = i
        · subst e4; rw [h2, t5] at e3; exact e3
        · exact hk k a (by omega)
      · rw [h2, t5] at e3
        rw [if_neg]
        rw [allI_iff (by omega)]
        exact fun z => e3 (of_decide_eq_true (z i (by omega) hi))
    · rintro i _ hi ⟨ib, hk⟩
      refine W_X6_isSame_s5_27 (Q := fun Z => Z = _) ⟨by omega, fun z => absurd z (by omega), fun _ => ?_⟩
      rw [if_pos]
      rw [allI_iff (by omega)]
      exact fun k a b => decide_eq_true (hk k a (by omega))
  · rw [t5, t6] at e2
    rw [if_neg]
    unfold mtb
    rw [Bool.and_eq_true, Bool.and_eq_true, decide_eq_true_eq, decide_eq_true_eq]
    exact fun z => e2 z.2.1
  · rw [if_neg]
    unfold mtb
    rw [Bool.and_eq_true, decide_eq_true_eq]
    exact fun z => e (t4.trans z.1)
theorem c_isSame6 {T : List Shp} {c : Cm} {B : Int → Int} {L p f t : Int} (h : EC c B L p) (hf : 0 ≤ f ∧ f ≤ t ∧ t ≤ 2) : ccal 61 [vR 49, vR (-106), vI f, vI t] (SH T, c) = some (some (vI (if mtb (strb 6) B L p f t = true then 1 else 0)), (SH T, c)) := by
  obtain ⟨h1, h2, h3, h4, t4, t5, t6, t7⟩ := h
  have eb := en_bd (B := B) h4.2
  have hb := h3.1
  refine W_X6_isSame_s6 (Q := fun Z => Z = some (some (vI (if mtb (strb 6) B L p f t = true then 1 else 0)), (SH T, c))) ⟨fun e => ⟨by omega, fun e2 => ?_, fun e2 => ?_⟩, fun e => ?_⟩
  · rw [t5, t6] at e2
    have em : mtb (strb 6) B L p f t = allI (fun i => decide ((strb 6).getD (f + i).toNat 0 = B (p + i))) (t - f) := by
      unfold mtb
      rw [decide_eq_true (t4.symm.trans e), decide_eq_true e2]
      rfl
    rw [em]
    refine lpI (Q := fun Z => Z = some (some (vI (if allI (fun i => decide ((strb 6).getD (f + i).toNat 0 = B (p + i))) (t - f) = true then 1 else 0)), (SH T, c))) (E := fun i (_ : Unit) => cev 61 5 27 [vR 49, vR (-106), vI f, vI t, vI i] [] (SH T, c)) (fun i _ => (0 ≤ i ∧ i ≤ t - f) ∧ ∀ k, 0 ≤ k → k < i → (strb 6).getD (f + k).toNat 0 = B (p + k)) (t - f) ?_ ?_ 0 () ⟨by omega, fun k a b => absurd a (by omega)⟩
    · rintro i _ hi ⟨ib, hk⟩ ih
      refine W_X6_isSame_s6_27 (Q := fun Z => Z = _) ⟨by omega, fun _ => ⟨by omega, fun e3 => ⟨by omega, ih () ⟨by omega, fun k a b => ?_⟩⟩, fun e3 => ?_⟩, fun z => absurd hi z⟩
      · by_cases e4 : k = i
        · subst e4; rw [h2, t5] at e3; exact e3
        · exact hk k a (by omega)
      · rw [h2, t5] at e3
        rw [if_neg]
        rw [allI_iff (by omega)]
        exact fun z => e3 (of_decide_eq_true (z i (by omega) hi))
    · rintro i _ hi ⟨ib, hk⟩
      refine W_X6_isSame_s6_27 (Q := fun Z => Z = _) ⟨by omega, fun z => absurd z (by omega), fun _ => ?_⟩
      rw [if_pos]
      rw [allI_iff (by omega)]
      exact fun k a b => decide_eq_true (hk k a (by omega))
  · rw [t5, t6] at e2
    rw [if_neg]
    unfold mtb
    rw [Bool.and_eq_true, Bool.and_eq_true, decide_eq_true_eq, decide_eq_true_eq]
    exact fun z => e2 z.2.1
  · rw [if_neg]
    unfold mtb
    rw [Bool.and_eq_true, decide_eq_true_eq]
    exact fun z => e (t4.trans z.1)
theorem c_isSame7 {T : List Shp} {c : Cm} {B : Int → Int} {L p f t : Int} (h : EC c B L p) (hf : 0 ≤ f ∧ f ≤ t ∧ t ≤ 2) : ccal 61 [vR 49, vR (-107), vI f, vI t] (SH T, c) = some (some (vI (if mtb (strb 7) B L p f t = true then 1 else 0)), (SH T, c)) := by
  obtain ⟨h1, h2, h3, h4, t4, t5, t6, t7⟩ := h
  have eb := en_bd (B := B) h4.2
  have hb := h3.1
  refine W_X6_isSame_s7 (Q := fun Z => Z = some (some (vI (if mtb (strb 7) B L p f t = true then 1 else 0)), (SH T, c))) ⟨fun e => ⟨by omega, fun e2 => ?_, fun e2 => ?_⟩, fun e => ?_⟩
  · rw [t5, t6] at e2
    have em : mtb (strb 7) B L p f t = allI (fun i => decide ((strb 7).getD (f + i).toNat 0 = B (p + i))) (t - f) := by
      unfold mtb
      rw [decide_eq_true (t4.symm.trans e), decide_eq_true e2]
      rfl
    rw [em]
    refine lpI (Q := fun Z => Z = some (some (vI (if allI (fun i => decide ((strb 7).getD (f + i).toNat 0 = B (p + i))) (t - f) = true then 1 else 0)), (SH T, c))) (E := fun i (_ : Unit) => cev 61 5 27 [vR 49, vR (-107), vI f, vI t, vI i] [] (SH T, c)) (fun i _ => (0 ≤ i ∧ i ≤ t - f) ∧ ∀ k, 0 ≤ k → k < i → (strb 7).getD (f + k).toNat 0 = B (p + k)) (t - f) ?_ ?_ 0 () ⟨by omega, fun k a b => absurd a (by omega)⟩
    · rintro i _ hi ⟨ib, hk⟩ ih
      refine W_X6_isSame_s7_27 (Q := fun Z => Z = _) ⟨by omega, fun _ => ⟨by omega, fun e3 => ⟨by omega, ih () ⟨by omega, fun k a b => ?_⟩⟩, fun e3 => ?_⟩, fun z => absurd hi z⟩
      · by_cases e4 : k = i
        · subst e4; rw [h2, t5] at e3; exact e3
        · exact hk k a (by omega)
      · rw [h2, t5] at e3
        rw [if_neg]
        rw [allI_iff (by omega)]
        exact fun z => e3 (of_decide_eq_true (z i (by omega) hi))
    · rintro i _ hi ⟨ib, hk⟩
      refine W_X6_isSame_s7_27 (Q := fun Z => Z = _) ⟨by omega, fun z => absurd z (by omega), fun _ => ?_⟩
      rw [if_pos]
      rw [allI_iff (by omega)]
      exact fun k a b => decide_eq_true (hk k a (by omega))
  · rw [t5, t6] at e2
    rw [if_neg]
    unfold mtb
    rw [Bool.and_eq_true, Bool.and_eq_true, decide_eq_true_eq, decide_eq_true_eq]
    exact fun z => e2 z.2.1
  · rw [if_neg]
    unfold mtb
    rw [Bool.and_eq_true, decide_eq_true_eq]
    exact fun z => e (t4.trans z.1)
theorem c_isSame8 {T : List Shp} {c : Cm} {B : Int → Int} {L p f t : Int} (h : EC c B L p) (hf : 0 ≤ f ∧ f ≤ t ∧ t ≤ 3) : ccal 61 [vR 49, vR (-108), vI f, vI t] (SH T, c) = some (some (vI (if mtb (strb 8) B L p f t = true then 1 else 0)), (SH T, c)) := by
  obtain ⟨h1, h2, h3, h4, t4, t5, t6, t7⟩ := h
  have eb := en_bd (B := B) h4.2
  have hb := h3.1
  refine W_X6_isSame_s8 (Q := fun Z => Z = some (some (vI (if mtb (strb 8) B L p f t = true then 1 else 0)), (SH T, c))) ⟨fun e => ⟨by omega, fun e2 => ?_, fun e2 => ?_⟩, fun e => ?_⟩
  · rw [t5, t6] at e2
    have em : mtb (strb 8) B L p f t = allI (fun i => decide ((strb 8).getD (f + i).toNat 0 = B (p + i))) (t - f) := by
      unfold mtb
      rw [decide_eq_true (t4.symm.trans e), decide_eq_true e2]
      rfl
    rw [em]
    refine lpI (Q := fun Z => Z = some (some (vI (if allI (fun i => decide ((strb 8).getD (f + i).toNat 0 = B (p + i))) (t - f) = true then 1 else 0)), (SH T, c))) (E := fun i (_ : Unit) => cev 61 5 27 [vR 49, vR (-108), vI f, vI t, vI i] [] (SH T, c)) (fun i _ => (0 ≤ i ∧ i ≤ t - f) ∧ ∀ k, 0 ≤ k → k < i → (strb 8).getD (f + k).toNat 0 = B (p + k)) (t - f) ?_ ?_ 0 () ⟨by omega, fun k a b => absurd a (by omega)⟩
    · rintro i _ hi ⟨ib, hk⟩ ih
      refine W_X6_isSame_s8_27 (Q := fun Z => Z = _) ⟨by omega, fun _ => ⟨by omega, fun e3 => ⟨by omega, ih () ⟨by omega, fun k a b => ?_⟩⟩, fun e3 => ?_⟩, fun z => absurd hi z⟩
      · by_cases e4 : k = i
        · subst e4; rw [h2, t5] at e3; exact e3
        · exact hk k a (by omega)
      · rw [h2, t5] at e3
        rw [if_neg]
        rw [allI_iff (by omega)]
        exact fun z => e3 (of_decide_eq_true (z i (by omega) hi))
    · rintro i _ hi ⟨ib, hk⟩
      refine W_X6_isSame_s8_27 (Q := fun Z => Z = _) ⟨by omega, fun z => absurd z (by omega), fun _ => ?_⟩
      rw [if_pos]
      rw [allI_iff (by omega)]
      exact fun k a b => decide_eq_true (hk k a (by omega))
  · rw [t5, t6] at e2
    rw [if_neg]
    unfold mtb
    rw [Bool.and_eq_true, Bool.and_eq_true, decide_eq_true_eq, decide_eq_true_eq]
    exact fun z => e2 z.2.1
  · rw [if_neg]
    unfold mtb
    rw [Bool.and_eq_true, decide_eq_true_eq]
    exact fun z => e (t4.trans z.1)
theorem c_isSame9 {T : List Shp} {c : Cm} {B : Int → Int} {L p f t : Int} (h : EC c B L p) (hf : 0 ≤ f ∧ f ≤ t ∧ t ≤ 3) : ccal 61 [vR 49, vR (-109), vI f, vI t] (SH T, c) = some (some (vI (if mtb (strb 9) B L p f t = true then 1 else 0)), (SH T, c)) := by
  obtain ⟨h1, h2, h3, h4, t4, t5, t6, t7⟩ := h
  have eb := en_bd (B := B) h4.2
  have hb := h3.1
  refine W_X6_isSame_s9 (Q := fun Z => Z = some (some (vI (if mtb (strb 9) B L p f t = true then 1 else 0)), (SH T, c))) ⟨fun e => ⟨by omega, fun e2 => ?_, fun e2 => ?_⟩, fun e => ?_⟩
  · rw [t5, t6] at e2
    have em : mtb (strb 9) B L p f t = allI (fun i => decide ((strb 9).getD (f + i).toNat 0 = B (p + i))) (t - f) := by
      unfold mtb
      rw [decide_eq_true (t4.symm.trans e), decide_eq_true e2]
      rfl
    rw [em]
    refine lpI (Q := fun Z => Z = some (some (vI (if allI (fun i => decide ((strb 9).getD (f + i).toNat 0 = B (p + i))) (t - f) = true then 1 else 0)), (SH T, c))) (E := fun i (_ : Unit) => cev 61 5 27 [vR 49, vR (-109), vI f, vI t, vI i] [] (SH T, c)) (fun i _ => (0 ≤ i ∧ i ≤ t - f) ∧ ∀ k, 0 ≤ k → k < i → (strb 9).getD (f + k).toNat 0 = B (p + k)) (t - f) ?_ ?_ 0 () ⟨by omega, fun k a b => absurd a (by omega)⟩
    · rintro i _ hi ⟨ib, hk⟩ ih
      refine W_X6_isSame_s9_27 (Q := fun Z => Z = _) ⟨by omega, fun _ => ⟨by omega, fun e3 => ⟨by omega, ih () ⟨by omega, fun k a b => ?_⟩⟩, fun e3 => ?_⟩, fun z => absurd hi z⟩
      · by_cases e4 : k = i
        · subst e4; rw [h2, t5] at e3; exact e3
        · exact hk k a (by omega)
      · rw [h2, t5] at e3
        rw [if_neg]
        rw [allI_iff (by omega)]
        exact fun z => e3 (of_decide_eq_true (z i (by omega) hi))
    · rintro i _ hi ⟨ib, hk⟩
      refine W_X6_isSame_s9_27 (Q := fun Z => Z = _) ⟨by omega, fun z => absurd z (by omega), fun _ => ?_⟩
      rw [if_pos]
      rw [allI_iff (by omega)]
      exact fun k a b => decide_eq_true (hk k a (by omega))
  · rw [t5, t6] at e2
    rw [if_neg]
    unfold mtb
    rw [Bool.and_eq_true, Bool.and_eq_true, decide_eq_true_eq, decide_eq_true_eq]
    exact fun z => e2 z.2.1
  · rw [if_neg]
    unfold mtb
    rw [Bool.and_eq_true, decide_eq_true_eq]
    exact fun z => e (t4.trans z.1)
theorem c_isSame10 {T : List Shp} {c : Cm} {B : Int → Int} {L p f t : Int} (h : EC c B L p) (hf : 0 ≤ f ∧ f ≤ t ∧ t ≤ 39) : ccal 61 [vR 49, vR (-110), vI f, vI t] (SH T, c) = some (some (vI (if mtb (strb 10) B L p f t = true then 1 else 0)), (SH T, c)) := by
  obtain ⟨h1, h2, h3, h4, t4, t5, t6, t7⟩ := h
  have eb := en_bd (B := B) h4.2
  have hb := h3.1
  refine W_X6_isSame_s10 (Q := fun Z => Z = some (some (vI (if mtb (strb 10) B L p f t = true then 1 else 0)), (SH T, c))) ⟨fun e => ⟨by omega, fun e2 => ?_, fun e2 => ?_⟩, fun e => ?_⟩
  · rw [t5, t6] at e2
    have em : mtb (strb 10) B L p f t = allI (fun i => decide ((strb 10).getD (f + i).toNat 0 = B (p + i))) (t - f) := by
      unfold mtb
      rw [decide_eq_true (t4.symm.trans e), decide_eq_true e2]
      rfl
    rw [em]
    refine lpI (Q := fun Z => Z = some (some (vI (if allI (fun i => decide ((strb 10).getD (f + i).toNat 0 = B (p + i))) (t - f) = true then 1 else 0)), (SH T, c))) (E := fun i (_ : Unit) => cev 61 5 27 [vR 49, vR (-110), vI f, vI t, vI i] [] (SH T, c)) (fun i _ => (0 ≤ i ∧ i ≤ t - f) ∧ ∀ k, 0 ≤ k → k < i → (strb 10).getD (f + k).toNat 0 = B (p + k)) (t - f) ?_ ?_ 0 () ⟨by omega, fun k a b => absurd a (by omega)⟩
    · rintro i _ hi ⟨ib, hk⟩ ih
      refine W_X6_isSame_s10_27 (Q := fun Z => Z = _) ⟨by omega, fun _ => ⟨by omega, fun e3 => ⟨by omega, ih () ⟨by omega, fun k a b => ?_⟩⟩, fun e3 => ?_⟩, fun z => absurd hi z⟩
      · by_cases e4 : k = i
        · subst e4; rw [h2, t5] at e3; exact e3
        · exact hk k a (by omega)
      · rw [h2, t5] at e3
        rw [if_neg]
        rw [allI_iff (by omega)]
        exact fun z => e3 (of_decide_eq_true (z i (by omega) hi))
    · rintro i _ hi ⟨ib, hk⟩
      refine W_X6_isSame_s10_27 (Q := fun Z => Z = _) ⟨by omega, fun z => absurd z (by omega), fun _ => ?_⟩
      rw [if_pos]
      rw [allI_iff (by omega)]
      exact fun k a b => decide_eq_true (hk k a (by omega))
  · rw [t5, t6] at e2
    rw [if_neg]
    unfold mtb
    rw [Bool.and_eq_true, Bool.and_eq_true, decide_eq_true_eq, decide_eq_true_eq]
    exact fun z => e2 z.2.1
  · rw [if_neg]
    unfold mtb
    rw [Bool.and_eq_true, decide_eq_true_eq]
    exact fun z => e (t4.trans z.1)
theorem c_isSame11 {T : List Shp} {c : Cm} {B : Int → Int} {L p f t : Int} (h : EC c B L p) (hf : 0 ≤ f ∧ f ≤ t ∧ t ≤ 60) : ccal 61 [vR 49, vR (-111), vI f, vI t] (SH T, c) = some (some (vI (if mtb (strb 11) B L p f t = true then 1 else 0)), (SH T, c)) := by
  obtain ⟨h1, h2, h3, h4, t4, t5, t6, t7⟩ := h
  have eb := en_bd (B := B) h4.2
  have hb := h3.1
  refine W_X6_isSame_s11 (Q := fun Z => Z = some (some (vI (if mtb (strb 11) B L p f t = true then 1 else 0)), (SH T, c))) ⟨fun e => ⟨by omega, fun e2 => ?_, fun e2 => ?_⟩, fun e => ?_⟩
  · rw [t5, t6] at e2
    have em : mtb (strb 11) B L p f t = allI (fun i => decide ((strb 11).getD (f + i).toNat 0 = B (p + i))) (t - f) := by
      unfold mtb
      rw [decide_eq_true (t4.symm.trans e), decide_eq_true e2]
      rfl
    rw [em]
    refine lpI (Q := fun Z => Z = some (some (vI (if allI (fun i => decide ((strb 11).getD (f + i).toNat 0 = B (p + i))) (t - f) = true then 1 else 0)), (SH T, c))) (E := fun i (_ : Unit) => cev 61 5 27 [vR 49, vR (-111), vI f, vI t, vI i] [] (SH T, c)) (fun i _ => (0 ≤ i ∧ i ≤ t - f) ∧ ∀ k, 0 ≤ k → k < i → (strb 11).getD (f + k).toNat 0 = B (p + k)) (t - f) ?_ ?_ 0 () ⟨by omega, fun k a b => absurd a (by omega)⟩
    · rintro i _ hi ⟨ib, hk⟩ ih
      refine W_X6_isSame_s11_27 (Q := fun Z => Z = _) ⟨by omega, fun _ => ⟨by omega, fun e3 => ⟨by omega, ih () ⟨by omega, fun k a b => ?_⟩⟩, fun e3 => ?_⟩, fun z => absurd hi z⟩
      · by_cases e4 : k = i
        · subst e4; rw [h2, t5] at e3; exact e3
        · exact hk k a (by omega)
      · rw [h2, t5] at e3
        rw [if_neg]
        rw [allI_iff (by omega)]
        exact fun z => e3 (of_decide_eq_true (z i (by omega) hi))
    · rintro i _ hi ⟨ib, hk⟩
      refine W_X6_isSame_s11_27 (Q := fun Z => Z = _) ⟨by omega, fun z => absurd z (by omega), fun _ => ?_⟩
      rw [if_pos]
      rw [allI_iff (by omega)]
      exact fun k a b => decide_eq_true (hk k a (by omega))
  · rw [t5, t6] at e2
    rw [if_neg]
    unfold mtb
    rw [Bool.and_eq_true, Bool.and_eq_true, decide_eq_true_eq, decide_eq_true_eq]
    exact fun z => e2 z.2.1
  · rw [if_neg]
    unfold mtb
    rw [Bool.and_eq_true, decide_eq_true_eq]
    exact fun z => e (t4.trans z.1)
theorem c_word3 {T : List Shp} {c : Cm} {B : Int → Int} {L p : Int} (h : EC c B L p) : QI T (fun r c' => (isw B L p 52 → r = 1 ∧ Fr NXA c c' ∧ EC c' B L (nx B L p)) ∧ (¬ isw B L p 52 → r = 0 ∧ c = c')) (ccal 59 [vR 49, vR (-103)] (SH T, c)) := by
  have k := mtb_iff (S := strb 3) (B := B) (L := L) (p := p) (f := 0) (t := 2) (v := 52) (by decide) (by decide) (by decide) (by decide)
  refine W_X6_takesWord_s3 (Q := QI T _) (QI.of_eq (c_isSame3 h (by omega)) ?_)
  by_cases e : isw B L p 52
  · rw [if_pos (k.mpr e)]
    exact ⟨fun z => absurd z (by decide), fun _ => h.next.mono fun c2 h2 => ⟨.inr rfl, QI.ret ⟨fun _ => ⟨rfl, h2⟩, fun z => absurd e z⟩⟩⟩
  · rw [if_neg (fun z => e (k.mp z))]
    exact ⟨fun _ => ⟨.inl rfl, QI.ret ⟨fun z => absurd z e, fun _ => ⟨rfl, rfl⟩⟩⟩, fun z => absurd rfl z⟩
theorem c_word4 {T : List Shp} {c : Cm} {B : Int → Int} {L p : Int} (h : EC c B L p) : QI T (fun r c' => (isw B L p 763528 → r = 1 ∧ Fr NXA c c' ∧ EC c' B L (nx B L p)) ∧ (¬ isw B L p 763528 → r = 0 ∧ c = c')) (ccal 59 [vR 49, vR (-104)] (SH T, c)) := by
  have k := mtb_iff (S := strb 4) (B := B) (L := L) (p := p) (f := 0) (t := 4) (v := 763528) (by decide) (by decide) (by decide) (by decide)
  refine W_X6_takesWord_s4 (Q := QI T _) (QI.of_eq (c_isSame4 h (by omega)) ?_)
  by_cases e : isw B L p 763528
  · rw [if_pos (k.mpr e)]
    exact ⟨fun z => absurd z (by decide), fun _ => h.next.mono fun c2 h2 => ⟨.inr rfl, QI.ret ⟨fun _ => ⟨rfl, h2⟩, fun z => absurd e z⟩⟩⟩
  · rw [if_neg (fun z => e (k.mp z))]
    exact ⟨fun _ => ⟨.inl rfl, QI.ret ⟨fun z => absurd z e, fun _ => ⟨rfl, rfl⟩⟩⟩, fun z => absurd rfl z⟩
theorem c_word5 {T : List Shp} {c : Cm} {B : Int → Int} {L p : Int} (h : EC c B L p) : QI T (fun r c' => (isw B L p 21279923 → r = 1 ∧ Fr NXA c c' ∧ EC c' B L (nx B L p)) ∧ (¬ isw B L p 21279923 → r = 0 ∧ c = c')) (ccal 59 [vR 49, vR (-105)] (SH T, c)) := by
  have k := mtb_iff (S := strb 5) (B := B) (L := L) (p := p) (f := 0) (t := 5) (v := 21279923) (by decide) (by decide) (by decide) (by decide)
  refine W_X6_takesWord_s5 (Q := QI T _) (QI.of_eq (c_isSame5 h (by omega)) ?_)
  by_cases e : isw B L p 21279923
  · rw [if_pos (k.mpr e)]
    exact ⟨fun z => absurd z (by decide), fun _ => h.next.mono fun c2 h2 => ⟨.inr rfl, QI.ret ⟨fun _ => ⟨rfl, h2⟩, fun z => absurd e z⟩⟩⟩
  · rw [if_neg (fun z => e (k.mp z))]
    exact ⟨fun _ => ⟨.inl rfl, QI.ret ⟨fun z => absurd z e, fun _ => ⟨rfl, rfl⟩⟩⟩, fun z => absurd rfl z⟩
theorem c_word6 {T : List Shp} {c : Cm} {B : Int → Int} {L p : Int} (h : EC c B L p) : QI T (fun r c' => (isw B L p 294 → r = 1 ∧ Fr NXA c c' ∧ EC c' B L (nx B L p)) ∧ (¬ isw B L p 294 → r = 0 ∧ c = c')) (ccal 59 [vR 49, vR (-106)] (SH T, c)) := by
  have k := mtb_iff (S := strb 6) (B := B) (L := L) (p := p) (f := 0) (t := 2) (v := 294) (by decide) (by decide) (by decide) (by decide)
  refine W_X6_takesWord_s6 (Q := QI T _) (QI.of_eq (c_isSame6 h (by omega)) ?_)
  by_cases e : isw B L p 294
  · rw [if_pos (k.mpr e)]
    exact ⟨fun z => absurd z (by decide), fun _ => h.next.mono fun c2 h2 => ⟨.inr rfl, QI.ret ⟨fun _ => ⟨rfl, h2⟩, fun z => absurd e z⟩⟩⟩
  · rw [if_neg (fun z => e (k.mp z))]
    exact ⟨fun _ => ⟨.inl rfl, QI.ret ⟨fun z => absurd z e, fun _ => ⟨rfl, rfl⟩⟩⟩, fun z => absurd rfl z⟩
theorem c_word7 {T : List Shp} {c : Cm} {B : Int → Int} {L p : Int} (h : EC c B L p) : QI T (fun r c' => (isw B L p 498 → r = 1 ∧ Fr NXA c c' ∧ EC c' B L (nx B L p)) ∧ (¬ isw B L p 498 → r = 0 ∧ c = c')) (ccal 59 [vR 49, vR (-107)] (SH T, c)) := by
  have k := mtb_iff (S := strb 7) (B := B) (L := L) (p := p) (f := 0) (t := 2) (v := 498) (by decide) (by decide) (by decide) (by decide)
  refine W_X6_takesWord_s7 (Q := QI T _) (QI.of_eq (c_isSame7 h (by omega)) ?_)
  by_cases e : isw B L p 498
  · rw [if_pos (k.mpr e)]
    exact ⟨fun z => absurd z (by decide), fun _ => h.next.mono fun c2 h2 => ⟨.inr rfl, QI.ret ⟨fun _ => ⟨rfl, h2⟩, fun z => absurd e z⟩⟩⟩
  · rw [if_neg (fun z => e (k.mp z))]
    exact ⟨fun _ => ⟨.inl rfl, QI.ret ⟨fun z => absurd z e, fun _ => ⟨rfl, rfl⟩⟩⟩, fun z => absurd rfl z⟩
theorem c_word8 {T : List Shp} {c : Cm} {B : Int → Int} {L p : Int} (h : EC c B L p) : QI T (fun r c' => (isw B L p 1476 → r = 1 ∧ Fr NXA c c' ∧ EC c' B L (nx B L p)) ∧ (¬ isw B L p 1476 → r = 0 ∧ c = c')) (ccal 59 [vR 49, vR (-108)] (SH T, c)) := by
  have k := mtb_iff (S := strb 8) (B := B) (L := L) (p := p) (f := 0) (t := 3) (v := 1476) (by decide) (by decide) (by decide) (by decide)
  refine W_X6_takesWord_s8 (Q := QI T _) (QI.of_eq (c_isSame8 h (by omega)) ?_)
  by_cases e : isw B L p 1476
  · rw [if_pos (k.mpr e)]
    exact ⟨fun z => absurd z (by decide), fun _ => h.next.mono fun c2 h2 => ⟨.inr rfl, QI.ret ⟨fun _ => ⟨rfl, h2⟩, fun z => absurd e z⟩⟩⟩
  · rw [if_neg (fun z => e (k.mp z))]
    exact ⟨fun _ => ⟨.inl rfl, QI.ret ⟨fun z => absurd z e, fun _ => ⟨rfl, rfl⟩⟩⟩, fun z => absurd rfl z⟩
theorem c_word9 {T : List Shp} {c : Cm} {B : Int → Int} {L p : Int} (h : EC c B L p) : QI T (fun r c' => (isw B L p 14836 → r = 1 ∧ Fr NXA c c' ∧ EC c' B L (nx B L p)) ∧ (¬ isw B L p 14836 → r = 0 ∧ c = c')) (ccal 59 [vR 49, vR (-109)] (SH T, c)) := by
  have k := mtb_iff (S := strb 9) (B := B) (L := L) (p := p) (f := 0) (t := 3) (v := 14836) (by decide) (by decide) (by decide) (by decide)
  refine W_X6_takesWord_s9 (Q := QI T _) (QI.of_eq (c_isSame9 h (by omega)) ?_)
  by_cases e : isw B L p 14836
  · rw [if_pos (k.mpr e)]
    exact ⟨fun z => absurd z (by decide), fun _ => h.next.mono fun c2 h2 => ⟨.inr rfl, QI.ret ⟨fun _ => ⟨rfl, h2⟩, fun z => absurd e z⟩⟩⟩
  · rw [if_neg (fun z => e (k.mp z))]
    exact ⟨fun _ => ⟨.inl rfl, QI.ret ⟨fun z => absurd z e, fun _ => ⟨rfl, rfl⟩⟩⟩, fun z => absurd rfl z⟩
def WS0 : List Int := [13090163, 398995, 52595, 18921843, 67155]
set_option maxRecDepth 20000 in
theorem plc0 (m : Int → Int → Bool) : plc (strb 0) m 28 0 0 0 = if m 0 5 = true then 0 else if m 6 10 = true then 1 else if m 11 15 = true then 2 else if m 16 21 = true then 3 else if m 22 26 = true then 4 else -1 := rfl
theorem c_placeIn0 {T : List Shp} {c : Cm} {B : Int → Int} {L p : Int} (h : EC c B L p) : ccal 60 [vR 49, vR (-100)] (SH T, c) = some (some (vI (tkw B L p WS0)), (SH T, c)) := by
  have key : ∀ (n : Nat) (x2 x3 x4 : Int), 0 ≤ x3 → x3 ≤ x4 → 26 + 1 - x4 ≤ (n : Int) → x4 ≤ 26 + 1 → 0 ≤ x2 → x2 ≤ x4 → x3 ≤ 26 + 1 → cev 60 6 7 [vR 49, vR (-100), vI x2, vI x3, vI x4] [] (SH T, c) = some (some (vI (plc (strb 0) (mtb (strb 0) B L p) n x2 x3 x4)), (SH T, c)) := by
    intro n
    induction n with
    | zero =>
      intro x2 x3 x4 a1 a2 a3 a4 a5 a6 a7
      exact W_X6_placeIn_s0_7 (Q := fun Z => Z = _) ⟨fun _ => rfl, fun z => absurd z (by omega)⟩
    | succ n ih =>
      intro x2 x3 x4 a1 a2 a3 a4 a5 a6 a7
      have el : ((strb 0).length : Int) = 26 := rfl
      show _ = some (some (vI (if ((strb 0).length : Int) < x4 then -1 else if x4 = ((strb 0).length : Int) ∨ (strb 0).getD x4.toNat 0 = 32 then (if mtb (strb 0) B L p x3 x4 = true then x2 else plc (strb 0) (mtb (strb 0) B L p) n (x2 + 1) (x4 + 1) (x4 + 1)) else plc (strb 0) (mtb (strb 0) B L p) n x2 x3 (x4 + 1))), (SH T, c))
      rw [el]
      have k36 : x4 ≤ 26 → cev 60 6 36 [vR 49, vR (-100), vI x2, vI x3, vI x4] [] (SH T, c) = some (some (vI (if mtb (strb 0) B L p x3 x4 = true then x2 else plc (strb 0) (mtb (strb 0) B L p) n (x2 + 1) (x4 + 1) (x4 + 1))), (SH T, c)) := by
        intro hx
        refine W_X6_placeIn_s0_36 (Q := fun Z => Z = _) (QI.of_eq (c_isSame0 h (by omega)) ?_)
        by_cases e : mtb (strb 0) B L p x3 x4 = true
        · rw [if_pos e, if_pos e]
          exact ⟨fun z => absurd z (by decide), fun _ => rfl⟩
        · rw [if_neg e, if_neg e]
          exact ⟨fun _ => ⟨by omega, ih _ _ _ (by omega) (by omega) (by omega) (by omega) (by omega) (by omega) (by omega)⟩, fun z => absurd rfl z⟩
      refine W_X6_placeIn_s0_7 (Q := fun Z => Z = _) ⟨fun e => ?_, fun e => ⟨fun e2 => ?_, fun e2 => ⟨by omega, fun e3 => ?_, fun e3 => ⟨by omega, ?_⟩⟩⟩⟩
      · rw [if_pos e]
      · rw [if_neg e, if_pos (.inl e2)]; exact k36 (by omega)
      · rw [if_neg e, if_pos (.inr e3)]; exact k36 (by omega)
      · rw [if_neg e, if_neg (by rintro (z | z); exact e2 z; exact e3 z)]
        exact ih _ _ _ (by omega) (by omega) (by omega) (by omega) (by omega) (by omega) (by omega)
  refine W_X6_placeIn_s0 (Q := fun Z => Z = _) ?_
  refine (key 28 0 0 0 (by omega) (by omega) (by omega) (by omega) (by omega) (by omega) (by omega)).trans (congrArg (fun v => some (some (vI v), (SH T, c))) ((plc0 _).trans ?_))
  unfold tkw
  by_cases e : kd B L p = 0
  · rw [if_pos e]
    show _ = if wo B L p = 13090163 then 0 else if wo B L p = 398995 then 1 else if wo B L p = 52595 then 2 else if wo B L p = 18921843 then 3 else if wo B L p = 67155 then 4 else -1
    have k0 := mtb_iff (S := strb 0) (B := B) (L := L) (p := p) (f := 0) (t := 5) (v := 13090163) (by decide) (by decide) (by decide) (by decide)
    unfold isw at k0
    have k1 := mtb_iff (S := strb 0) (B := B) (L := L) (p := p) (f := 6) (t := 10) (v := 398995) (by decide) (by decide) (by decide) (by decide)
    unfold isw at k1
    have k2 := mtb_iff (S := strb 0) (B := B) (L := L) (p := p) (f := 11) (t := 15) (v := 52595) (by decide) (by decide) (by decide) (by decide)
    unfold isw at k2
    have k3 := mtb_iff (S := strb 0) (B := B) (L := L) (p := p) (f := 16) (t := 21) (v := 18921843) (by decide) (by decide) (by decide) (by decide)
    unfold isw at k3
    have k4 := mtb_iff (S := strb 0) (B := B) (L := L) (p := p) (f := 22) (t := 26) (v := 67155) (by decide) (by decide) (by decide) (by decide)
    unfold isw at k4
    exact ifw ⟨fun z => (k0.mp z).2, fun z => k0.mpr ⟨e, z⟩⟩ fun _ => ifw ⟨fun z => (k1.mp z).2, fun z => k1.mpr ⟨e, z⟩⟩ fun _ => ifw ⟨fun z => (k2.mp z).2, fun z => k2.mpr ⟨e, z⟩⟩ fun _ => ifw ⟨fun z => (k3.mp z).2, fun z => k3.mpr ⟨e, z⟩⟩ fun _ => ifw ⟨fun z => (k4.mp z).2, fun z => k4.mpr ⟨e, z⟩⟩ fun _ => rfl
  · rw [if_neg e]
    have no : ∀ f t, ¬ mtb (strb 0) B L p f t = true := by
      intro f t z
      unfold mtb at z
      rw [Bool.and_eq_true, decide_eq_true_eq] at z
      exact e z.1
    rw [if_neg (no _ _), if_neg (no _ _), if_neg (no _ _), if_neg (no _ _), if_neg (no _ _)]
def WS1 : List Int := [16819668, 641271301, 114201, 21484648]
set_option maxRecDepth 20000 in
theorem plc1 (m : Int → Int → Bool) : plc (strb 1) m 25 0 0 0 = if m 0 5 = true then 0 else if m 6 12 = true then 1 else if m 13 17 = true then 2 else if m 18 23 = true then 3 else -1 := rfl
theorem c_placeIn1 {T : List Shp} {c : Cm} {B : Int → Int} {L p : Int} (h : EC c B L p) : ccal 60 [vR 49, vR (-101)] (SH T, c) = some (some (vI (tkw B L p WS1)), (SH T, c)) := by
  have key : ∀ (n : Nat) (x2 x3 x4 : Int), 0 ≤ x3 → x3 ≤ x4 → 23 + 1 - x4 ≤ (n : Int) → x4 ≤ 23 + 1 → 0 ≤ x2 → x2 ≤ x4 → x3 ≤ 23 + 1 → cev 60 6 7 [vR 49, vR (-101), vI x2, vI x3, vI x4] [] (SH T, c) = some (some (vI (plc (strb 1) (mtb (strb 1) B L p) n x2 x3 x4)), (SH T, c)) := by
    intro n
    induction n with
    | zero =>
      intro x2 x3 x4 a1 a2 a3 a4 a5 a6 a7
      exact W_X6_placeIn_s1_7 (Q := fun Z => Z = _) ⟨fun _ => rfl, fun z => absurd z (by omega)⟩
    | succ n ih =>
      intro x2 x3 x4 a1 a2 a3 a4 a5 a6 a7
      have el : ((strb 1).length : Int) = 23 := rfl
      show _ = some (some (vI (if ((strb 1).length : Int) < x4 then -1 else if x4 = ((strb 1).length : Int) ∨ (strb 1).getD x4.toNat 0 = 32 then (if mtb (strb 1) B L p x3 x4 = true then x2 else plc (strb 1) (mtb (strb 1) B L p) n (x2 + 1) (x4 + 1) (x4 + 1)) else plc (strb 1) (mtb (strb 1) B L p) n x2 x3 (x4 + 1))), (SH T, c))
      rw [el]
      have k36 : x4 ≤ 23 → cev 60 6 36 [vR 49, vR (-101), vI x2, vI x3, vI x4] [] (SH T, c) = some (some (vI (if mtb (strb 1) B L p x3 x4 = true then x2 else plc (strb 1) (mtb (strb 1) B L p) n (x2 + 1) (x4 + 1) (x4 + 1))), (SH T, c)) := by
        intro hx
        refine W_X6_placeIn_s1_36 (Q := fun Z => Z = _) (QI.of_eq (c_isSame1 h (by omega)) ?_)
        by_cases e : mtb (strb 1) B L p x3 x4 = true
        · rw [if_pos e, if_pos e]
          exact ⟨fun z => absurd z (by decide), fun _ => rfl⟩
        · rw [if_neg e, if_neg e]
          exact ⟨fun _ => ⟨by omega, ih _ _ _ (by omega) (by omega) (by omega) (by omega) (by omega) (by omega) (by omega)⟩, fun z => absurd rfl z⟩
      refine W_X6_placeIn_s1_7 (Q := fun Z => Z = _) ⟨fun e => ?_, fun e => ⟨fun e2 => ?_, fun e2 => ⟨by omega, fun e3 => ?_, fun e3 => ⟨by omega, ?_⟩⟩⟩⟩
      · rw [if_pos e]
      · rw [if_neg e, if_pos (.inl e2)]; exact k36 (by omega)
      · rw [if_neg e, if_pos (.inr e3)]; exact k36 (by omega)
      · rw [if_neg e, if_neg (by rintro (z | z); exact e2 z; exact e3 z)]
        exact ih _ _ _ (by omega) (by omega) (by omega) (by omega) (by omega) (by omega) (by omega)
  refine W_X6_placeIn_s1 (Q := fun Z => Z = _) ?_
  refine (key 25 0 0 0 (by omega) (by omega) (by omega) (by omega) (by omega) (by omega) (by omega)).trans (congrArg (fun v => some (some (vI v), (SH T, c))) ((plc1 _).trans ?_))
  unfold tkw
  by_cases e : kd B L p = 0
  · rw [if_pos e]
    show _ = if wo B L p = 16819668 then 0 else if wo B L p = 641271301 then 1 else if wo B L p = 114201 then 2 else if wo B L p = 21484648 then 3 else -1
    have k0 := mtb_iff (S := strb 1) (B := B) (L := L) (p := p) (f := 0) (t := 5) (v := 16819668) (by decide) (by decide) (by decide) (by decide)
    unfold isw at k0
    have k1 := mtb_iff (S := strb 1) (B := B) (L := L) (p := p) (f := 6) (t := 12) (v := 641271301) (by decide) (by decide) (by decide) (by decide)
    unfold isw at k1
    have k2 := mtb_iff (S := strb 1) (B := B) (L := L) (p := p) (f := 13) (t := 17) (v := 114201) (by decide) (by decide) (by decide) (by decide)
    unfold isw at k2
    have k3 := mtb_iff (S := strb 1) (B := B) (L := L) (p := p) (f := 18) (t := 23) (v := 21484648) (by decide) (by decide) (by decide) (by decide)
    unfold isw at k3
    exact ifw ⟨fun z => (k0.mp z).2, fun z => k0.mpr ⟨e, z⟩⟩ fun _ => ifw ⟨fun z => (k1.mp z).2, fun z => k1.mpr ⟨e, z⟩⟩ fun _ => ifw ⟨fun z => (k2.mp z).2, fun z => k2.mpr ⟨e, z⟩⟩ fun _ => ifw ⟨fun z => (k3.mp z).2, fun z => k3.mpr ⟨e, z⟩⟩ fun _ => rfl
  · rw [if_neg e]
    have no : ∀ f t, ¬ mtb (strb 1) B L p f t = true := by
      intro f t z
      unfold mtb at z
      rw [Bool.and_eq_true, decide_eq_true_eq] at z
      exact e z.1
    rw [if_neg (no _ _), if_neg (no _ _), if_neg (no _ _), if_neg (no _ _)]
def WS2 : List Int := [412456564, 111838500468, 89]
set_option maxRecDepth 20000 in
theorem plc2 (m : Int → Int → Bool) : plc (strb 2) m 20 0 0 0 = if m 0 6 = true then 0 else if m 7 15 = true then 1 else if m 16 18 = true then 2 else -1 := rfl
theorem c_placeIn2 {T : List Shp} {c : Cm} {B : Int → Int} {L p : Int} (h : EC c B L p) : ccal 60 [vR 49, vR (-102)] (SH T, c) = some (some (vI (tkw B L p WS2)), (SH T, c)) := by
  have key : ∀ (n : Nat) (x2 x3 x4 : Int), 0 ≤ x3 → x3 ≤ x4 → 18 + 1 - x4 ≤ (n : Int) → x4 ≤ 18 + 1 → 0 ≤ x2 → x2 ≤ x4 → x3 ≤ 18 + 1 → cev 60 6 7 [vR 49, vR (-102), vI x2, vI x3, vI x4] [] (SH T, c) = some (some (vI (plc (strb 2) (mtb (strb 2) B L p) n x2 x3 x4)), (SH T, c)) := by
    intro n
    induction n with
    | zero =>
      intro x2 x3 x4 a1 a2 a3 a4 a5 a6 a7
      exact W_X6_placeIn_s2_7 (Q := fun Z => Z = _) ⟨fun _ => rfl, fun z => absurd z (by omega)⟩
    | succ n ih =>
      intro x2 x3 x4 a1 a2 a3 a4 a5 a6 a7
      have el : ((strb 2).length : Int) = 18 := rfl
      show _ = some (some (vI (if ((strb 2).length : Int) < x4 then -1 else if x4 = ((strb 2).length : Int) ∨ (strb 2).getD x4.toNat 0 = 32 then (if mtb (strb 2) B L p x3 x4 = true then x2 else plc (strb 2) (mtb (strb 2) B L p) n (x2 + 1) (x4 + 1) (x4 + 1)) else plc (strb 2) (mtb (strb 2) B L p) n x2 x3 (x4 + 1))), (SH T, c))
      rw [el]
      have k36 : x4 ≤ 18 → cev 60 6 36 [vR 49, vR (-102), vI x2, vI x3, vI x4] [] (SH T, c) = some (some (vI (if mtb (strb 2) B L p x3 x4 = true then x2 else plc (strb 2) (mtb (strb 2) B L p) n (x2 + 1) (x4 + 1) (x4 + 1))), (SH T, c)) := by
        intro hx
        refine W_X6_placeIn_s2_36 (Q := fun Z => Z = _) (QI.of_eq (c_isSame2 h (by omega)) ?_)
        by_cases e : mtb (strb 2) B L p x3 x4 = true
        · rw [if_pos e, if_pos e]
          exact ⟨fun z => absurd z (by decide), fun _ => rfl⟩
        · rw [if_neg e, if_neg e]
          exact ⟨fun _ => ⟨by omega, ih _ _ _ (by omega) (by omega) (by omega) (by omega) (by omega) (by omega) (by omega)⟩, fun z => absurd rfl z⟩
      refine W_X6_placeIn_s2_7 (Q := fun Z => Z = _) ⟨fun e => ?_, fun e => ⟨fun e2 => ?_, fun e2 => ⟨by omega, fun e3 => ?_, fun e3 => ⟨by omega, ?_⟩⟩⟩⟩
      · rw [if_pos e]
      · rw [if_neg e, if_pos (.inl e2)]; exact k36 (by omega)
      · rw [if_neg e, if_pos (.inr e3)]; exact k36 (by omega)
      · rw [if_neg e, if_neg (by rintro (z | z); exact e2 z; exact e3 z)]
        exact ih _ _ _ (by omega) (by omega) (by omega) (by omega) (by omega) (by omega) (by omega)
  refine W_X6_placeIn_s2 (Q := fun Z => Z = _) ?_
  refine (key 20 0 0 0 (by omega) (by omega) (by omega) (by omega) (by omega) (by omega) (by omega)).trans (congrArg (fun v => some (some (vI v), (SH T, c))) ((plc2 _).trans ?_))
  unfold tkw
  by_cases e : kd B L p = 0
  · rw [if_pos e]
    show _ = if wo B L p = 412456564 then 0 else if wo B L p = 111838500468 then 1 else if wo B L p = 89 then 2 else -1
    have k0 := mtb_iff (S := strb 2) (B := B) (L := L) (p := p) (f := 0) (t := 6) (v := 412456564) (by decide) (by decide) (by decide) (by decide)
    unfold isw at k0
    have k1 := mtb_iff (S := strb 2) (B := B) (L := L) (p := p) (f := 7) (t := 15) (v := 111838500468) (by decide) (by decide) (by decide) (by decide)
    unfold isw at k1
    have k2 := mtb_iff (S := strb 2) (B := B) (L := L) (p := p) (f := 16) (t := 18) (v := 89) (by decide) (by decide) (by decide) (by decide)
    unfold isw at k2
    exact ifw ⟨fun z => (k0.mp z).2, fun z => k0.mpr ⟨e, z⟩⟩ fun _ => ifw ⟨fun z => (k1.mp z).2, fun z => k1.mpr ⟨e, z⟩⟩ fun _ => ifw ⟨fun z => (k2.mp z).2, fun z => k2.mpr ⟨e, z⟩⟩ fun _ => rfl
  · rw [if_neg e]
    have no : ∀ f t, ¬ mtb (strb 2) B L p f t = true := by
      intro f t z
      unfold mtb at z
      rw [Bool.and_eq_true, decide_eq_true_eq] at z
      exact e z.1
    rw [if_neg (no _ _), if_neg (no _ _), if_neg (no _ _)]
def WS10 : List Int := [26379859, 719725925, 14137529, 116925619, 1253, 146885, 671173]
set_option maxRecDepth 20000 in
theorem plc10 (m : Int → Int → Bool) : plc (strb 10) m 41 0 0 0 = if m 0 5 = true then 0 else if m 6 12 = true then 1 else if m 13 18 = true then 2 else if m 19 25 = true then 3 else if m 26 29 = true then 4 else if m 30 34 = true then 5 else if m 35 39 = true then 6 else -1 := rfl
theorem c_placeIn10 {T : List Shp} {c : Cm} {B : Int → Int} {L p : Int} (h : EC c B L p) : ccal 60 [vR 49, vR (-110)] (SH T, c) = some (some (vI (tkw B L p WS10)), (SH T, c)) := by
  have key : ∀ (n : Nat) (x2 x3 x4 : Int), 0 ≤ x3 → x3 ≤ x4 → 39 + 1 - x4 ≤ (n : Int) → x4 ≤ 39 + 1 → 0 ≤ x2 → x2 ≤ x4 → x3 ≤ 39 + 1 → cev 60 6 7 [vR 49, vR (-110), vI x2, vI x3, vI x4] [] (SH T, c) = some (some (vI (plc (strb 10) (mtb (strb 10) B L p) n x2 x3 x4)), (SH T, c)) := by
    intro n
    induction n with
    | zero =>
      intro x2 x3 x4 a1 a2 a3 a4 a5 a6 a7
      exact W_X6_placeIn_s10_7 (Q := fun Z => Z = _) ⟨fun _ => rfl, fun z => absurd z (by omega)⟩
    | succ n ih =>
      intro x2 x3 x4 a1 a2 a3 a4 a5 a6 a7
      have el : ((strb 10).length : Int) = 39 := rfl
      show _ = some (some (vI (if ((strb 10).length : Int) < x4 then -1 else if x4 = ((strb 10).length : Int) ∨ (strb 10).getD x4.toNat 0 = 32 then (if mtb (strb 10) B L p x3 x4 = true then x2 else plc (strb 10) (mtb (strb 10) B L p) n (x2 + 1) (x4 + 1) (x4 + 1)) else plc (strb 10) (mtb (strb 10) B L p) n x2 x3 (x4 + 1))), (SH T, c))
      rw [el]
      have k36 : x4 ≤ 39 → cev 60 6 36 [vR 49, vR (-110), vI x2, vI x3, vI x4] [] (SH T, c) = some (some (vI (if mtb (strb 10) B L p x3 x4 = true then x2 else plc (strb 10) (mtb (strb 10) B L p) n (x2 + 1) (x4 + 1) (x4 + 1))), (SH T, c)) := by
        intro hx
        refine W_X6_placeIn_s10_36 (Q := fun Z => Z = _) (QI.of_eq (c_isSame10 h (by omega)) ?_)
        by_cases e : mtb (strb 10) B L p x3 x4 = true
        · rw [if_pos e, if_pos e]
          exact ⟨fun z => absurd z (by decide), fun _ => rfl⟩
        · rw [if_neg e, if_neg e]
          exact ⟨fun _ => ⟨by omega, ih _ _ _ (by omega) (by omega) (by omega) (by omega) (by omega) (by omega) (by omega)⟩, fun z => absurd rfl z⟩
      refine W_X6_placeIn_s10_7 (Q := fun Z => Z = _) ⟨fun e => ?_, fun e => ⟨fun e2 => ?_, fun e2 => ⟨by omega, fun e3 => ?_, fun e3 => ⟨by omega, ?_⟩⟩⟩⟩
      · rw [if_pos e]
      · rw [if_neg e, if_pos (.inl e2)]; exact k36 (by omega)
      · rw [if_neg e, if_pos (.inr e3)]; exact k36 (by omega)
      · rw [if_neg e, if_neg (by rintro (z | z); exact e2 z; exact e3 z)]
        exact ih _ _ _ (by omega) (by omega) (by omega) (by omega) (by omega) (by omega) (by omega)
  refine W_X6_placeIn_s10 (Q := fun Z => Z = _) ?_
  refine (key 41 0 0 0 (by omega) (by omega) (by omega) (by omega) (by omega) (by omega) (by omega)).trans (congrArg (fun v => some (some (vI v), (SH T, c))) ((plc10 _).trans ?_))
  unfold tkw
  by_cases e : kd B L p = 0
  · rw [if_pos e]
    show _ = if wo B L p = 26379859 then 0 else if wo B L p = 719725925 then 1 else if wo B L p = 14137529 then 2 else if wo B L p = 116925619 then 3 else if wo B L p = 1253 then 4 else if wo B L p = 146885 then 5 else if wo B L p = 671173 then 6 else -1
    have k0 := mtb_iff (S := strb 10) (B := B) (L := L) (p := p) (f := 0) (t := 5) (v := 26379859) (by decide) (by decide) (by decide) (by decide)
    unfold isw at k0
    have k1 := mtb_iff (S := strb 10) (B := B) (L := L) (p := p) (f := 6) (t := 12) (v := 719725925) (by decide) (by decide) (by decide) (by decide)
    unfold isw at k1
    have k2 := mtb_iff (S := strb 10) (B := B) (L := L) (p := p) (f := 13) (t := 18) (v := 14137529) (by decide) (by decide) (by decide) (by decide)
    unfold isw at k2
    have k3 := mtb_iff (S := strb 10) (B := B) (L := L) (p := p) (f := 19) (t := 25) (v := 116925619) (by decide) (by decide) (by decide) (by decide)
    unfold isw at k3
    have k4 := mtb_iff (S := strb 10) (B := B) (L := L) (p := p) (f := 26) (t := 29) (v := 1253) (by decide) (by decide) (by decide) (by decide)
    unfold isw at k4
    have k5 := mtb_iff (S := strb 10) (B := B) (L := L) (p := p) (f := 30) (t := 34) (v := 146885) (by decide) (by decide) (by decide) (by decide)
    unfold isw at k5
    have k6 := mtb_iff (S := strb 10) (B := B) (L := L) (p := p) (f := 35) (t := 39) (v := 671173) (by decide) (by decide) (by decide) (by decide)
    unfold isw at k6
    exact ifw ⟨fun z => (k0.mp z).2, fun z => k0.mpr ⟨e, z⟩⟩ fun _ => ifw ⟨fun z => (k1.mp z).2, fun z => k1.mpr ⟨e, z⟩⟩ fun _ => ifw ⟨fun z => (k2.mp z).2, fun z => k2.mpr ⟨e, z⟩⟩ fun _ => ifw ⟨fun z => (k3.mp z).2, fun z => k3.mpr ⟨e, z⟩⟩ fun _ => ifw ⟨fun z => (k4.mp z).2, fun z => k4.mpr ⟨e, z⟩⟩ fun _ => ifw ⟨fun z => (k5.mp z).2, fun z => k5.mpr ⟨e, z⟩⟩ fun _ => ifw ⟨fun z => (k6.mp z).2, fun z => k6.mpr ⟨e, z⟩⟩ fun _ => rfl
  · rw [if_neg e]
    have no : ∀ f t, ¬ mtb (strb 10) B L p f t = true := by
      intro f t z
      unfold mtb at z
      rw [Bool.and_eq_true, decide_eq_true_eq] at z
      exact e z.1
    rw [if_neg (no _ _), if_neg (no _ _), if_neg (no _ _), if_neg (no _ _), if_neg (no _ _), if_neg (no _ _), if_neg (no _ _)]
def WS11 : List Int := [103820, 1253, 824370, 17223340210, 17376357, 441828, 116007536084, 81486, 463922, 111983872174]
set_option maxRecDepth 20000 in
theorem plc11 (m : Int → Int → Bool) : plc (strb 11) m 62 0 0 0 = if m 0 4 = true then 0 else if m 5 8 = true then 1 else if m 9 13 = true then 2 else if m 14 21 = true then 3 else if m 22 27 = true then 4 else if m 28 32 = true then 5 else if m 33 41 = true then 6 else if m 42 46 = true then 7 else if m 47 51 = true then 8 else if m 52 60 = true then 9 else -1 := rfl
theorem c_placeIn11 {T : List Shp} {c : Cm} {B : Int → Int} {L p : Int} (h : EC c B L p) : ccal 60 [vR 49, vR (-111)] (SH T, c) = some (some (vI (tkw B L p WS11)), (SH T, c)) := by
  have key : ∀ (n : Nat) (x2 x3 x4 : Int), 0 ≤ x3 → x3 ≤ x4 → 60 + 1 - x4 ≤ (n : Int) → x4 ≤ 60 + 1 → 0 ≤ x2 → x2 ≤ x4 → x3 ≤ 60 + 1 → cev 60 6 7 [vR 49, vR (-111), vI x2, vI x3, vI x4] [] (SH T, c) = some (some (vI (plc (strb 11) (mtb (strb 11) B L p) n x2 x3 x4)), (SH T, c)) := by
    intro n
    induction n with
    | zero =>
      intro x2 x3 x4 a1 a2 a3 a4 a5 a6 a7
      exact W_X6_placeIn_s11_7 (Q := fun Z => Z = _) ⟨fun _ => rfl, fun z => absurd z (by omega)⟩
    | succ n ih =>
      intro x2 x3 x4 a1 a2 a3 a4 a5 a6 a7
      have el : ((strb 11).length : Int) = 60 := rfl
      show _ = some (some (vI (if ((strb 11).length : Int) < x4 then -1 else if x4 = ((strb 11).length : Int) ∨ (strb 11).getD x4.toNat 0 = 32 then (if mtb (strb 11) B L p x3 x4 = true then x2 else plc (strb 11) (mtb (strb 11) B L p) n (x2 + 1) (x4 + 1) (x4 + 1)) else plc (strb 11) (mtb (strb 11) B L p) n x2 x3 (x4 + 1))), (SH T, c))
      rw [el]
      have k36 : x4 ≤ 60 → cev 60 6 36 [vR 49, vR (-111), vI x2, vI x3, vI x4] [] (SH T, c) = some (some (vI (if mtb (strb 11) B L p x3 x4 = true then x2 else plc (strb 11) (mtb (strb 11) B L p) n (x2 + 1) (x4 + 1) (x4 + 1))), (SH T, c)) := by
        intro hx
        refine W_X6_placeIn_s11_36 (Q := fun Z => Z = _) (QI.of_eq (c_isSame11 h (by omega)) ?_)
        by_cases e : mtb (strb 11) B L p x3 x4 = true
        · rw [if_pos e, if_pos e]
          exact ⟨fun z => absurd z (by decide), fun _ => rfl⟩
        · rw [if_neg e, if_neg e]
          exact ⟨fun _ => ⟨by omega, ih _ _ _ (by omega) (by omega) (by omega) (by omega) (by omega) (by omega) (by omega)⟩, fun z => absurd rfl z⟩
      refine W_X6_placeIn_s11_7 (Q := fun Z => Z = _) ⟨fun e => ?_, fun e => ⟨fun e2 => ?_, fun e2 => ⟨by omega, fun e3 => ?_, fun e3 => ⟨by omega, ?_⟩⟩⟩⟩
      · rw [if_pos e]
      · rw [if_neg e, if_pos (.inl e2)]; exact k36 (by omega)
      · rw [if_neg e, if_pos (.inr e3)]; exact k36 (by omega)
      · rw [if_neg e, if_neg (by rintro (z | z); exact e2 z; exact e3 z)]
        exact ih _ _ _ (by omega) (by omega) (by omega) (by omega) (by omega) (by omega) (by omega)
  refine W_X6_placeIn_s11 (Q := fun Z => Z = _) ?_
  refine (key 62 0 0 0 (by omega) (by omega) (by omega) (by omega) (by omega) (by omega) (by omega)).trans (congrArg (fun v => some (some (vI v), (SH T, c))) ((plc11 _).trans ?_))
  unfold tkw
  by_cases e : kd B L p = 0
  · rw [if_pos e]
    show _ = if wo B L p = 103820 then 0 else if wo B L p = 1253 then 1 else if wo B L p = 824370 then 2 else if wo B L p = 17223340210 then 3 else if wo B L p = 17376357 then 4 else if wo B L p = 441828 then 5 else if wo B L p = 116007536084 then 6 else if wo B L p = 81486 then 7 else if wo B L p = 463922 then 8 else if wo B L p = 111983872174 then 9 else -1
    have k0 := mtb_iff (S := strb 11) (B := B) (L := L) (p := p) (f := 0) (t := 4) (v := 103820) (by decide) (by decide) (by decide) (by decide)
    unfold isw at k0
    have k1 := mtb_iff (S := strb 11) (B := B) (L := L) (p := p) (f := 5) (t := 8) (v := 1253) (by decide) (by decide) (by decide) (by decide)
    unfold isw at k1
    have k2 := mtb_iff (S := strb 11) (B := B) (L := L) (p := p) (f := 9) (t := 13) (v := 824370) (by decide) (by decide) (by decide) (by decide)
    unfold isw at k2
    have k3 := mtb_iff (S := strb 11) (B := B) (L := L) (p := p) (f := 14) (t := 21) (v := 17223340210) (by decide) (by decide) (by decide) (by decide)
    unfold isw at k3
    have k4 := mtb_iff (S := strb 11) (B := B) (L := L) (p := p) (f := 22) (t := 27) (v := 17376357) (by decide) (by decide) (by decide) (by decide)
    unfold isw at k4
    have k5 := mtb_iff (S := strb 11) (B := B) (L := L) (p := p) (f := 28) (t := 32) (v := 441828) (by decide) (by decide) (by decide) (by decide)
    unfold isw at k5
    have k6 := mtb_iff (S := strb 11) (B := B) (L := L) (p := p) (f := 33) (t := 41) (v := 116007536084) (by decide) (by decide) (by decide) (by decide)
    unfold isw at k6
    have k7 := mtb_iff (S := strb 11) (B := B) (L := L) (p := p) (f := 42) (t := 46) (v := 81486) (by decide) (by decide) (by decide) (by decide)
    unfold isw at k7
    have k8 := mtb_iff (S := strb 11) (B := B) (L := L) (p := p) (f := 47) (t := 51) (v := 463922) (by decide) (by decide) (by decide) (by decide)
    unfold isw at k8
    have k9 := mtb_iff (S := strb 11) (B := B) (L := L) (p := p) (f := 52) (t := 60) (v := 111983872174) (by decide) (by decide) (by decide) (by decide)
    unfold isw at k9
    exact ifw ⟨fun z => (k0.mp z).2, fun z => k0.mpr ⟨e, z⟩⟩ fun _ => ifw ⟨fun z => (k1.mp z).2, fun z => k1.mpr ⟨e, z⟩⟩ fun _ => ifw ⟨fun z => (k2.mp z).2, fun z => k2.mpr ⟨e, z⟩⟩ fun _ => ifw ⟨fun z => (k3.mp z).2, fun z => k3.mpr ⟨e, z⟩⟩ fun _ => ifw ⟨fun z => (k4.mp z).2, fun z => k4.mpr ⟨e, z⟩⟩ fun _ => ifw ⟨fun z => (k5.mp z).2, fun z => k5.mpr ⟨e, z⟩⟩ fun _ => ifw ⟨fun z => (k6.mp z).2, fun z => k6.mpr ⟨e, z⟩⟩ fun _ => ifw ⟨fun z => (k7.mp z).2, fun z => k7.mpr ⟨e, z⟩⟩ fun _ => ifw ⟨fun z => (k8.mp z).2, fun z => k8.mpr ⟨e, z⟩⟩ fun _ => ifw ⟨fun z => (k9.mp z).2, fun z => k9.mpr ⟨e, z⟩⟩ fun _ => rfl
  · rw [if_neg e]
    have no : ∀ f t, ¬ mtb (strb 11) B L p f t = true := by
      intro f t z
      unfold mtb at z
      rw [Bool.and_eq_true, decide_eq_true_eq] at z
      exact e z.1
    rw [if_neg (no _ _), if_neg (no _ _), if_neg (no _ _), if_neg (no _ _), if_neg (no _ _), if_neg (no _ _), if_neg (no _ _), if_neg (no _ _), if_neg (no _ _), if_neg (no _ _)]
