/-! TREES: the reference goes through all rows of parents -/
def alS (n : Nat) : Nat → Nat → Nat → List Nat
  | 0, _, v => [v]
  | f + 1, k, v => (List.range (n + 1)).flatMap fun q => alS n f (k + 1) (nxN v q k)
theorem alS_mem {n : Nat} (hn : n ≤ 6) : ∀ f k v u, v < 8 ^ k → u ∈ alS n f k v → ∀ a, a < k → dgN u a = dgN v a := by
  intro f
  induction f with
  | zero => intro k v u hv hu a _; rw [List.mem_singleton.mp hu]
  | succ f ih =>
    intro k v u hv hu a ha
    obtain ⟨q, hq, h2⟩ := List.mem_flatMap.mp (show u ∈ (List.range (n + 1)).flatMap _ from hu)
    have q7 := List.mem_range.mp hq
    rw [ih (k + 1) (nxN v q k) u (nx_lt hv (by omega)) h2 a (by omega)]
    exact dg_low ha
theorem alS_at {n : Nat} (hn : n ≤ 6) {f k v q u : Nat} (hv : v < 8 ^ k) (hq : q ≤ n) (hu : u ∈ alS n f (k + 1) (nxN v q k)) : (∀ a, a < k → dgN u a = dgN v a) ∧ dgN u k = q := by
  have h := alS_mem hn f (k + 1) (nxN v q k) u (nx_lt hv (by omega)) hu
  exact ⟨fun a b => (h a (by omega)).trans (dg_low b), (h k (by omega)).trans (dg_here hv (by omega))⟩
theorem cf_cg {u v k : Nat} (h : ∀ a, a < k → dgN u a = dgN v a) : ∀ f a, cfN u k f a = cfN v k f a := by
  intro f
  induction f with
  | zero => intro a; rfl
  | succ f ih =>
    intro a
    show (bif Nat.beq a 0 then false else bif Nat.beq a k then true else bif Nat.ble k a then false else cfN u k f (dgN u a)) = (bif Nat.beq a 0 then false else bif Nat.beq a k then true else bif Nat.ble k a then false else cfN v k f (dgN v a))
    cases e : Nat.ble k a with
    | true => rfl
    | false =>
      have : a < k := by
        refine Classical.byContradiction fun z => ?_
        rw [Nat.ble_eq_true_of_le (by omega)] at e
        exact absurd e (by decide)
      rw [h a this, ih]
theorem cf_t8 {u k : Nat} : ∀ f a F, cfN u k f a = true → t8N u F a = true → ∃ G, G ≤ F ∧ t8N u G k = true := by
  intro f
  induction f with
  | zero => intro a F h; exact absurd (show false = true from h) (by decide)
  | succ f ih =>
    intro a F h ht
    have h' : (bif Nat.beq a 0 then false else bif Nat.beq a k then true else bif Nat.ble k a then false else cfN u k f (dgN u a)) = true := h
    by_cases a0 : a = 0
    · rw [a0] at h'; exact absurd (show false = true from h') (by decide)
    · rw [beq_f a0] at h'
      by_cases ak : a = k
      · exact ⟨F, Nat.le_refl _, by rw [← ak]; exact ht⟩
      · rw [beq_f ak] at h'
        cases e : Nat.ble k a with
        | true => rw [e] at h'; exact absurd (show false = true from h') (by decide)
        | false =>
          rw [e] at h'
          cases F with
          | zero => exact absurd (Nat.eq_of_beq_eq_true (show Nat.beq a 0 = true from ht)) a0
          | succ F =>
            have ht' : (bif Nat.beq a 0 then true else t8N u F (dgN u a)) = true := ht
            rw [beq_f a0] at ht'
            obtain ⟨G, hG, hk⟩ := ih (dgN u a) F h' ht'
            exact ⟨G, by omega, hk⟩
theorem cyc_t8 {u k : Nat} (hk : 1 ≤ k) (h : cfN u k 7 (dgN u k) = true) : ∀ m F, F ≤ m → t8N u F k = false := by
  intro m
  induction m with
  | zero =>
    intro F hF
    rw [show F = 0 from by omega]
    exact beq_f (by omega)
  | succ m ih =>
    intro F hF
    cases F with
    | zero => exact beq_f (by omega)
    | succ F =>
      show (bif Nat.beq k 0 then true else t8N u F (dgN u k)) = false
      rw [beq_f (show k ≠ 0 by omega)]
      show t8N u F (dgN u k) = false
      cases e : t8N u F (dgN u k) with
      | false => rfl
      | true =>
        obtain ⟨G, hG, hk2⟩ := cf_t8 7 (dgN u k) F h e
        rw [ih G (by omega)] at hk2
        exact absurd hk2 (by decide)
theorem allN_iff {p : Nat → Bool} : ∀ n, allN p n = true ↔ ∀ j, 1 ≤ j → j ≤ n → p j = true := by
  intro n
  induction n with
  | zero => exact ⟨fun _ j a b => by omega, fun _ => rfl⟩
  | succ n ih =>
    show (p (n + 1) && allN p n) = true ↔ _
    rw [Bool.and_eq_true, ih]
    refine ⟨fun h j a b => ?_, fun h => ⟨h (n + 1) (by omega) (by omega), fun j a b => h j a (by omega)⟩⟩
    by_cases e : j = n + 1
    · rw [e]; exact h.1
    · exact h.2 j a (by omega)
def T8 (n u : Nat) : Bool := allN (t8N u 8) n
theorem al_filter {n : Nat} (hn : n ≤ 6) : ∀ f k v, k + f = n + 1 → 1 ≤ k → v < 8 ^ k → (alS n f k v).filter (T8 n) = (dfS n f k v).filter (T8 n) := by
  intro f
  induction f with
  | zero => intro k v _ _ _; rfl
  | succ f ih =>
    intro k v hk h1 hv
    show ((List.range (n + 1)).flatMap _).filter (T8 n) = ((List.range (n + 1)).flatMap _).filter (T8 n)
    rw [List.filter_flatMap, List.filter_flatMap]
    have : ∀ q ∈ List.range (n + 1), (alS n f (k + 1) (nxN v q k)).filter (T8 n) = (bif cfN v k 7 q then [] else dfS n f (k + 1) (nxN v q k)).filter (T8 n) := by
      intro q hq
      have q7 := List.mem_range.mp hq
      cases e : cfN v k 7 q with
      | false => exact ih (k + 1) (nxN v q k) (by omega) (by omega) (nx_lt hv (by omega))
      | true =>
        show _ = ([] : List Nat)
        refine List.filter_eq_nil_iff.mpr fun u hu ht => ?_
        have a := alS_at hn hv (show q ≤ n by omega) hu
        have c1 : cfN u k 7 (dgN u k) = true := by rw [a.2, cf_cg a.1]; exact e
        have c2 := (allN_iff n).mp ht k h1 (by omega)
        rw [cyc_t8 h1 c1 8 8 (Nat.le_refl _)] at c2
        exact absurd c2 (by decide)
    have gen : ∀ l : List Nat, (∀ q ∈ l, q ∈ List.range (n + 1)) → l.flatMap (fun q => (alS n f (k + 1) (nxN v q k)).filter (T8 n)) = l.flatMap (fun q => (bif cfN v k 7 q then [] else dfS n f (k + 1) (nxN v q k)).filter (T8 n)) := by
      intro l
      induction l with
      | nil => intro _; rfl
      | cons q l ihl =>
        intro hl
        rw [List.flatMap_cons, List.flatMap_cons, this q (hl q List.mem_cons_self), ihl fun x hx => hl x (List.mem_cons_of_mem _ hx)]
    exact gen _ fun q hq => hq
theorem al_trees {n : Nat} (hn : n ≤ 6) : (alS n n 1 0).filter (T8 n) = dfS n n 1 0 := by
  rw [al_filter hn n 1 0 (by omega) (by omega) (by decide)]
  exact List.filter_eq_self.mpr fun u hu => tree_t8 hn hu
def vcN (n : Nat) : Nat → Nat → Nat → Nat → Nat
  | 0, _, v, _ => v
  | f + 1, k, v, z => vcN n f (k + 1) (nxN v (z / (n + 1) ^ f) k) (z % (n + 1) ^ f)
theorem range_mul {M : Nat} : ∀ a, List.range (a * M) = (List.range a).flatMap fun q => (List.range M).map fun r => q * M + r := by
  intro a
  induction a with
  | zero => rw [Nat.zero_mul]; rfl
  | succ a ih =>
    rw [Nat.succ_mul, List.range_add, ih, List.range_succ, List.flatMap_append]
    congr 1
    show _ = _ ++ []
    rw [List.append_nil]
theorem alS_vc {n : Nat} : ∀ f k v, alS n f k v = (List.range ((n + 1) ^ f)).map (vcN n f k v) := by
  intro f
  induction f with
  | zero => intro k v; rfl
  | succ f ih =>
    intro k v
    have p : 0 < (n + 1) ^ f := Nat.pow_pos (by omega)
    rw [Nat.pow_succ, Nat.mul_comm, range_mul, List.map_flatMap]
    show (List.range (n + 1)).flatMap _ = _
    congr 1
    funext q
    rw [ih, List.map_map]
    refine List.map_congr_left fun r hr => ?_
    have hr2 := List.mem_range.mp hr
    show vcN n f (k + 1) (nxN v q k) r = vcN n f (k + 1) (nxN v ((q * (n + 1) ^ f + r) / (n + 1) ^ f) k) ((q * (n + 1) ^ f + r) % (n + 1) ^ f)
    rw [Nat.mul_comm q, Nat.mul_add_div p, Nat.mul_add_mod, Nat.div_eq_of_lt hr2, Nat.mod_eq_of_lt hr2]
    rfl
theorem vc_dg {n : Nat} (hn : n ≤ 6) : ∀ f k v z, v < 8 ^ k → z < (n + 1) ^ f → (∀ a, a < k → dgN (vcN n f k v z) a = dgN v a) ∧ ∀ a, k ≤ a → a < k + f → dgN (vcN n f k v z) a = z / (n + 1) ^ (k + f - 1 - a) % (n + 1) := by
  intro f
  induction f with
  | zero => intro k v z _ _; exact ⟨fun _ _ => rfl, fun a b c => by omega⟩
  | succ f ih =>
    intro k v z hv hz
    have p : 0 < (n + 1) ^ f := Nat.pow_pos (by omega)
    have hq : z / (n + 1) ^ f < n + 1 := Nat.div_lt_of_lt_mul (by rw [Nat.pow_succ] at hz; exact hz)
    have i := ih (k + 1) (nxN v (z / (n + 1) ^ f) k) (z % (n + 1) ^ f) (nx_lt hv (by omega)) (Nat.mod_lt _ p)
    refine ⟨fun a b => (i.1 a (by omega)).trans (dg_low b), fun a b c => ?_⟩
    by_cases e : a = k
    · show dgN (vcN n f (k + 1) (nxN v (z / (n + 1) ^ f) k) (z % (n + 1) ^ f)) a = _
      rw [e, i.1 k (by omega), dg_here hv (by omega), show k + (f + 1) - 1 - k = f from by omega, Nat.mod_eq_of_lt hq]
    · show dgN (vcN n f (k + 1) (nxN v (z / (n + 1) ^ f) k) (z % (n + 1) ^ f)) a = _
      rw [i.2 a (by omega) (by omega), show k + 1 + f - 1 - a = k + (f + 1) - 1 - a from by omega]
      generalize ed : k + (f + 1) - 1 - a = d
      have hd : (n + 1) ^ f = (n + 1) ^ d * ((n + 1) * (n + 1) ^ (f - d - 1)) := by
        rw [← Nat.mul_assoc, ← Nat.pow_succ, ← Nat.pow_add]
        congr 1
        omega
      rw [hd, Nat.mod_mul_right_div_self, Nat.mod_mul_right_mod]
theorem r_isTree {T : List Shp} {c : Cm} {n u : Nat} (hn : n ≤ 6) (h : ∀ j : Nat, j < n → c 102 (j : Int) = ((dgN u (j + 1) : Nat) : Int)) (hd : ∀ j, 1 ≤ j → j ≤ n → dgN u j ≤ n) : ccal 294 [vR 78, vI (n : Int)] (SH T, c) = some (some (vI (b01 (T8 n u = true))), (SH T, c)) := by
  refine W_X12_isTree (Q := fun Z => Z = some (some (vI (b01 (T8 n u = true))), (SH T, c))) ?_
  refine lpI (Q := fun Z => Z = some (some (vI (b01 (T8 n u = true))), (SH T, c))) (E := fun i (_ : Unit) => cev 294 1 2 [vR 78, vI (n : Int), vI i, vU, vU] [] (SH T, c)) (fun i _ => (0 ≤ i ∧ i ≤ n) ∧ ∀ j : Nat, 1 ≤ j → (j : Int) ≤ i → t8N u 8 j = true) n ?_ ?_ 0 () ⟨by omega, fun j a b => by omega⟩
  · intro i _ hi hI ih
    obtain ⟨hi0, hj⟩ := hI
    obtain ⟨k, rfl⟩ := Int.eq_ofNat_of_zero_le hi0.1
    refine W_X12_isTree_2 (Q := fun Z => Z = some (some (vI (b01 (T8 n u = true))), (SH T, c))) ⟨fun _ => ⟨by omega, ?_⟩, fun z => absurd hi z⟩
    have last : ∀ a : Nat, (Nat.beq a 0 = t8N u 8 (k + 1)) → cev 294 1 40 [vR 78, vI (n : Int), vI (k : Int), vI (a : Int), vU] [] (SH T, c) = some (some (vI (b01 (T8 n u = true))), (SH T, c)) := by
      intro a ea
      refine W_X12_isTree_40 (Q := fun Z => Z = some (some (vI (b01 (T8 n u = true))), (SH T, c))) ⟨fun z => ?_, fun z => ⟨by omega, ih () ⟨by omega, fun j p q => ?_⟩⟩⟩
      · rw [b01_f]
        intro ht
        have := (allN_iff n).mp ht (k + 1) (by omega) (by omega)
        rw [← ea, beq_f (by omega)] at this
        exact absurd this (by decide)
      · by_cases e : j = k + 1
        · rw [e, ← ea, show a = 0 from by omega]; rfl
        · exact hj j p (by omega)
    refine lpI (Q := fun Z => Z = some (some (vI (b01 (T8 n u = true))), (SH T, c))) (E := fun s (a : Int) => cev 294 1 14 [vR 78, vI (n : Int), vI (k : Int), vI a, vI s] [] (SH T, c)) (fun s a => (0 ≤ s ∧ s ≤ 8) ∧ ∃ m : Nat, a = (m : Int) ∧ m ≤ n ∧ t8N u (8 - s.toNat) m = t8N u 8 (k + 1)) 8 ?_ ?_ 0 ((k : Int) + 1) ⟨by omega, k + 1, by omega, by omega, rfl⟩
    · intro s a hs hS ih2
      obtain ⟨hs0, m, rfl, hm, e⟩ := hS
      have es : t8N u (8 - s.toNat) m = bif Nat.beq m 0 then true else t8N u (8 - (s + 1).toNat) (dgN u m) := by
        rw [show 8 - s.toNat = (8 - (s + 1).toNat) + 1 from by omega]
        rfl
      refine W_X12_isTree_14 (Q := fun Z => Z = some (some (vI (b01 (T8 n u = true))), (SH T, c))) ⟨fun h0 => ⟨fun _ => ⟨by omega, ih2 _ ⟨by omega, dgN u m, ?_, hd m (by omega) hm, ?_⟩⟩, fun z => absurd hs z⟩, fun h0 => last m ?_⟩
      · rw [show (m : Int) - 1 = ((m - 1 : Nat) : Int) from by omega, h (m - 1) (by omega), show m - 1 + 1 = m from by omega]
      · rw [← e, es, beq_f (show m ≠ 0 by omega)]
        rfl
      · have : m = 0 := by omega
        rw [← e, es, this]
        rfl
    · intro s a hs hS
      obtain ⟨hs0, m, rfl, hm, e⟩ := hS
      have e8 : s = 8 := by omega
      subst e8
      refine W_X12_isTree_14 (Q := fun Z => Z = some (some (vI (b01 (T8 n u = true))), (SH T, c))) ⟨fun h0 => ⟨fun z => absurd z (by decide), fun _ => last m e⟩, fun h0 => last m e⟩
  · intro i _ hi hI
    obtain ⟨hi0, hj⟩ := hI
    have : i = n := by omega
    subst this
    refine W_X12_isTree_2 (Q := fun Z => Z = some (some (vI (b01 (T8 n u = true))), (SH T, c))) ⟨fun z => absurd z (by omega), fun _ => ?_⟩
    have ht : T8 n u = true := (allN_iff n).mpr fun j a b => hj j a (by omega)
    rw [b01_t ht]
