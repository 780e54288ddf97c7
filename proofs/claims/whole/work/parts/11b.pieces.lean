/-! PIECES of a text's code and what they work out (the judge's engine) -/
theorem deed_of {d k : Int} (hd : 0 ≤ d ∧ d < 16) (hk : 0 ≤ k ∧ k < 67108864) : iand (d + 16 * k) 15 = d ∧ ishr (d + 16 * k) 4 = k := by
  obtain ⟨a, rfl⟩ := Int.eq_ofNat_of_zero_le hd.1
  obtain ⟨b, rfl⟩ := Int.eq_ofNat_of_zero_le hk.1
  have e : (a : Int) + 16 * (b : Int) = ((a + 16 * b : Nat) : Int) := by omega
  rw [e]
  constructor
  · rw [show (15 : Int) = ((15 : Nat) : Int) from rfl, iand_nat (by omega) (by omega)]
    have : (a + 16 * b) &&& 15 = (a + 16 * b) % 2 ^ 4 := Nat.and_two_pow_sub_one_eq_mod (a + 16 * b) 4
    rw [this]
    omega
  · rw [show (4 : Int) = ((4 : Nat) : Int) from rfl, ishr_nat (by omega) (by omega), Nat.shiftRight_eq_div_pow]
    omega
def TXA (T : List Shp) (x : Int) (u v : Nat) : Prop := ∃ n2 f3 n5 f6, drf (SH T) x = some (u, (20, n2, f3)) ∧ drf (SH T) (f3.getD 1 0) = some (v, (0, n5, f6)) ∧ 109 ≤ u ∧ 109 ≤ v
noncomputable def HDA (T : List Shp) (x : Int) (p t : Int) (c : Cm) : Res := cev 20 2 11 [vR 16, vR x, vU, vR 18, vI p, vI t, vU, vU] [] (SH T, c)
/-- what stands still while a text is worked out -/
def STA (c : Cm) (u v : Nat) (S W : Int → Int) (n : Int) : Prop := c v = S ∧ c u 3 = n ∧ ∀ i, 0 ≤ i → i < 10 → c 17 i = W i
theorem STA.off {c c' : Cm} {u v : Nat} {S W : Int → Int} {n : Int} (h : STA c u v S W n) (o : Off [15, 16] [] c c') (hu : 109 ≤ u) (hv : 109 ≤ v) : STA c' u v S W n := by
  have key : ∀ q : Nat, q = 17 ∨ 109 ≤ q → c' q = c q := fun q hq => by
    funext j
    refine o q j ?_ (fun e => by omega)
    cases e : ([15, 16] : List Nat).contains q with
    | false => rfl
    | true =>
      have := List.contains_iff_mem.mp e
      simp at this
      omega
  unfold STA
  rw [key v (.inr hv), key u (.inr hu), key 17 (.inl rfl)]
  exact h
def PCA (T : List Shp) (x : Int) (u v : Nat) (S W : Int → Int) (n : Int) (need : Int) (p q : Int) (o : Option Int) : Prop := ∀ (Q : Res → Prop) (c : Cm) (t h : Int), STA c u v S W n → c 15 1 = h → 0 ≤ h → h + need ≤ 100 → 0 ≤ t → t + (q - p) ≤ 449 → (o = none → ∀ c', Off [15, 16] [] c c' → Q (some (some (vI 0), (SH T, c')))) → (∀ y, o = some y → ∀ c' t', Off [15, 16] [] c c' → c' 15 1 = h + 1 → c' 16 h = y → (∀ j, 0 ≤ j → j < h → c' 16 j = c 16 j) → t ≤ t' → t' ≤ t + (q - p) → Q (HDA T x q t' c')) → Q (HDA T x p t c)
theorem PCA_num {T : List Shp} {x : Int} {u v : Nat} {S W : Int → Int} {n p k : Int} (hx : TXA T x u v) (hp : 0 ≤ p ∧ p < n) (hn : n ≤ 450) (hS : S p = 0 + 16 * k) (hk : 0 ≤ k ∧ k < 67108864) (hl : ∀ n5 n2 f3 f6, drf (SH T) x = some (u, (20, n2, f3)) → drf (SH T) (f3.getD 1 0) = some (v, (0, n5, f6)) → n ≤ n5) : PCA T x u v S W n 1 p (p + 1) (some k) := by
  intro Q c t h hst hh h0 hneed ht htq _ hok
  obtain ⟨n2, f3, n5, f6, e1, e2, hu, hv⟩ := hx
  have nl := hl n5 n2 f3 f6 e1 e2
  have dd := deed_of (d := 0) (k := k) (by omega) hk
  refine W_X3_worksa_11 (p1 := u) (n2 := n2) (f3 := f3) (p4 := v) (n5 := n5) (f6 := f6) ⟨fun _ => ⟨e1, ?_⟩, fun z => absurd (show t < 450 by omega) z⟩
  rw [hst.2.1, hst.1, hS, dd.1, dd.2]
  refine ⟨fun _ => ⟨⟨e1, e2, by omega, by omega⟩, fun _ => ?_, fun z => absurd rfl z⟩, fun z => absurd hp z⟩
  refine W_X3_worksa_68 ⟨fun _ => ⟨fun z => absurd z (by decide), fun _ => ?_⟩, fun z => absurd (show c 15 1 < 100 by omega) z⟩
  refine W_X3_worksa_95 ⟨fun _ => ⟨by omega, ?_⟩, fun z => absurd rfl z⟩
  rw [hh]
  refine hok k rfl _ (t + 1) ((Off.rfl.wr rfl).wr rfl) up_same ?_ (fun j a b => ?_) (by omega) (by omega)
  · rw [up_cell (by decide), up_same]
  · rw [up_cell (by decide), up_ne (by omega)]
