/-! TREES: their weights; least and how many -/
def wtN (w : Nat → Int) : Nat → Nat → Nat → Int
  | 0, _, _ => 0
  | f + 1, j, x => ((x % 128 : Nat) : Int) * w j + wtN w f (j + 1) (x / 128)
theorem wt1_nn : ∀ f j x, 0 ≤ wtN (fun _ => 1) f j x := by
  intro f
  induction f with
  | zero => intro j x; exact Int.le_refl 0
  | succ f ih =>
    intro j x
    have := ih (j + 1) (x / 128)
    show 0 ≤ ((x % 128 : Nat) : Int) * 1 + wtN (fun _ => 1) f (j + 1) (x / 128)
    omega
theorem wt_add {w : Nat → Int} : ∀ f j a b, wtN (fun _ => 1) f j a + wtN (fun _ => 1) f j b ≤ 127 → wtN w f j (a + b) = wtN w f j a + wtN w f j b := by
  intro f
  induction f with
  | zero => intro j a b _; rfl
  | succ f ih =>
    intro j a b h
    have h2 : ((a % 128 : Nat) : Int) * 1 + wtN (fun _ => 1) f (j + 1) (a / 128) + (((b % 128 : Nat) : Int) * 1 + wtN (fun _ => 1) f (j + 1) (b / 128)) ≤ 127 := h
    have n1 := wt1_nn f (j + 1) (a / 128)
    have n2 := wt1_nn f (j + 1) (b / 128)
    have e1 : (a + b) % 128 = a % 128 + b % 128 := by omega
    have e2 : (a + b) / 128 = a / 128 + b / 128 := by omega
    show (((a + b) % 128 : Nat) : Int) * w j + wtN w f (j + 1) ((a + b) / 128) = ((a % 128 : Nat) : Int) * w j + wtN w f (j + 1) (a / 128) + (((b % 128 : Nat) : Int) * w j + wtN w f (j + 1) (b / 128))
    rw [e1, e2, ih (j + 1) (a / 128) (b / 128) (by omega), Int.natCast_add, Int.add_mul]
    omega
theorem wt_zero {w : Nat → Int} : ∀ f j, wtN w f j 0 = 0 := by
  intro f
  induction f with
  | zero => intro j; rfl
  | succ f ih =>
    intro j
    show ((0 : Nat) : Int) * w j + wtN w f (j + 1) 0 = 0
    rw [ih, Int.natCast_zero, Int.zero_mul]; rfl
theorem wt_one {w : Nat → Int} : ∀ e f j, e < f → wtN w f j (2 ^ (7 * e)) = w (j + e) := by
  intro e
  induction e with
  | zero =>
    intro f j h
    cases f with
    | zero => omega
    | succ f =>
      show ((1 : Nat) : Int) * w j + wtN w f (j + 1) 0 = w j
      rw [wt_zero, Int.natCast_one, Int.one_mul, Int.add_zero]
  | succ e ih =>
    intro f j h
    cases f with
    | zero => omega
    | succ f =>
      have p : 2 ^ (7 * (e + 1)) = 128 * 2 ^ (7 * e) := by rw [Nat.mul_add, Nat.pow_add, Nat.mul_comm]
      show ((2 ^ (7 * (e + 1)) % 128 : Nat) : Int) * w j + wtN w f (j + 1) (2 ^ (7 * (e + 1)) / 128) = _
      rw [p, Nat.mul_mod_right, Nat.mul_div_cancel_left _ (by decide), ih f (j + 1) (by omega), Int.natCast_zero, Int.zero_mul, Int.zero_add]
      congr 1
      omega
theorem wt_le {w : Nat → Int} {B : Int} (h : ∀ e, 0 ≤ w e ∧ w e ≤ B) : ∀ f j x, 0 ≤ wtN w f j x ∧ wtN w f j x ≤ B * wtN (fun _ => 1) f j x := by
  intro f
  induction f with
  | zero => intro j x; exact ⟨Int.le_refl 0, by show (0 : Int) ≤ B * 0; rw [Int.mul_zero]; exact Int.le_refl 0⟩
  | succ f ih =>
    intro j x
    have i := ih (j + 1) (x / 128)
    have hw := h j
    have a := Int.mul_nonneg (a := ((x % 128 : Nat) : Int)) (by omega) hw.1
    have b := Int.mul_le_mul_of_nonneg_left hw.2 (show (0 : Int) ≤ ((x % 128 : Nat) : Int) by omega)
    show 0 ≤ ((x % 128 : Nat) : Int) * w j + wtN w f (j + 1) (x / 128) ∧ ((x % 128 : Nat) : Int) * w j + wtN w f (j + 1) (x / 128) ≤ B * (((x % 128 : Nat) : Int) * 1 + wtN (fun _ => 1) f (j + 1) (x / 128))
    rw [Int.mul_one, Int.mul_add, Int.mul_comm B]
    omega
def WE7 (R : Int → Int) (e : Nat) : Int := lik R ((e / 7 : Nat) : Int) ((e % 7 : Nat) : Int)
def wt (R : Int → Int) (x : Nat) : Int := wtN (WE7 R) 49 0 x
def dsN (x : Nat) : Int := wtN (fun _ => 1) 49 0 x
theorem ds_nn (x : Nat) : 0 ≤ dsN x := wt1_nn 49 0 x
theorem wt_bd {R : Int → Int} (x : Nat) : 0 ≤ wt R x ∧ wt R x ≤ 12 * dsN x := wt_le (fun e => lik_bd) 49 0 x
theorem wt_plus {R : Int → Int} {a b : Nat} (h : dsN a + dsN b ≤ 127) : wt R (a + b) = wt R a + wt R b := wt_add 49 0 a b h
theorem ds_plus {a b : Nat} (h : dsN a + dsN b ≤ 127) : dsN (a + b) = dsN a + dsN b := wt_add 49 0 a b h
theorem eix_lt {a b : Nat} (ha : a < 7) (hb : b < 7) : eixN a b < 49 := by
  unfold eixN
  cases Nat.ble a b with
  | true => show 7 * a + b < 49; omega
  | false => show 7 * b + a < 49; omega
theorem edg_pow {a b : Nat} : edgN a b = 2 ^ (7 * eixN a b) := by
  show 1 <<< (7 * eixN a b) = _
  rw [Nat.shiftLeft_eq, Nat.one_mul]
theorem wt_edg {R : Int → Int} {a b : Nat} (ha : a < 7) (hb : b < 7) : wt R (edgN a b) = lik R a b := by
  unfold wt
  rw [edg_pow, wt_one _ _ _ (eix_lt ha hb), Nat.zero_add]
  unfold WE7 eixN
  cases Nat.ble a b with
  | true =>
    show lik R (((7 * a + b) / 7 : Nat) : Int) (((7 * a + b) % 7 : Nat) : Int) = _
    rw [show (7 * a + b) / 7 = a from by omega, show (7 * a + b) % 7 = b from by omega]
  | false =>
    show lik R (((7 * b + a) / 7 : Nat) : Int) (((7 * b + a) % 7 : Nat) : Int) = _
    rw [show (7 * b + a) / 7 = b from by omega, show (7 * b + a) % 7 = a from by omega]
    exact lik_sym
theorem ds_edg {a b : Nat} (ha : a < 7) (hb : b < 7) : dsN (edgN a b) = 1 := by
  unfold dsN
  rw [edg_pow, wt_one _ _ _ (eix_lt ha hb)]
/-! the smaller sets -/
def pcN (s : Nat) : Nat := s % 2 + (s / 2 % 2 + (s / 4 % 2 + (s / 8 % 2 + (s / 16 % 2 + (s / 32 % 2 + s / 64 % 2)))))
def bl (p : Nat → Bool) : Nat → Bool
  | 0 => true
  | m + 1 => p m && bl p m
theorem bl_at {p : Nat → Bool} : ∀ m, bl p m = true → ∀ k, k < m → p k = true := by
  intro m
  induction m with
  | zero => intro _ k h; omega
  | succ m ih =>
    intro h k hk
    have h2 := (Bool.and_eq_true _ _).mp h
    by_cases e : k = m
    · rw [e]; exact h2.1
    · exact ih h2.2 k (by omega)
def fcN (s z : Nat) : Bool := Nat.beq (rsN s) 0 || !(Nat.beq (Nat.land z (otN s)) z) || (Nat.ble 1 (brN s z) && (Nat.ble (Nat.succ (brN s z)) s && (Nat.ble 1 (Nat.xor s (brN s z)) && (Nat.ble (Nat.succ (Nat.xor s (brN s z))) s && (Nat.beq (Nat.add (pcN (brN s z)) (pcN (Nat.xor s (brN s z)))) (pcN s) && (Nat.ble 1 (pcN (brN s z)) && Nat.ble 1 (pcN (Nat.xor s (brN s z)))))))))
theorem fc_all : bl (fun s => bl (fun z => fcN s z) 128) 128 = true := by decide +kernel
theorem pc_all : bl (fun s => Nat.beq s 0 || (Nat.ble 1 (pcN s) && (!(Nat.beq (rsN s) 0) || Nat.beq (pcN s) 1))) 128 = true := by decide +kernel
theorem lo_all : bl (fun s => Nat.ble (Nat.succ (lowN s 7)) 7 || Nat.beq s 0) 128 = true := by decide +kernel
theorem br_facts {s z : Nat} (hs : s < 128) (hr : rsN s ≠ 0) (hz : Nat.land z (otN s) = z) : (1 ≤ brN s z ∧ brN s z < s) ∧ (1 ≤ Nat.xor s (brN s z) ∧ Nat.xor s (brN s z) < s) ∧ pcN (brN s z) + pcN (Nat.xor s (brN s z)) = pcN s ∧ 1 ≤ pcN (brN s z) ∧ 1 ≤ pcN (Nat.xor s (brN s z)) := by
  have ho : otN s < 128 := by
    have a : otN s ≤ rsN s := Nat.and_le_left
    have b : rsN s ≤ s := Nat.and_le_left
    omega
  have hz2 : z < 128 := by
    have : Nat.land z (otN s) ≤ otN s := Nat.and_le_right
    omega
  have := bl_at 128 (bl_at 128 fc_all s hs) z hz2
  unfold fcN at this
  have e1 : Nat.beq (rsN s) 0 = false := by
    cases q : Nat.beq (rsN s) 0 with
    | false => rfl
    | true => exact absurd (Nat.eq_of_beq_eq_true q) hr
  have e2 : Nat.beq (Nat.land z (otN s)) z = true := by rw [hz]; exact Nat.beq_refl z
  rw [e1, e2] at this
  have h : (Nat.ble 1 (brN s z) && (Nat.ble (Nat.succ (brN s z)) s && (Nat.ble 1 (Nat.xor s (brN s z)) && (Nat.ble (Nat.succ (Nat.xor s (brN s z))) s && (Nat.beq (Nat.add (pcN (brN s z)) (pcN (Nat.xor s (brN s z)))) (pcN s) && (Nat.ble 1 (pcN (brN s z)) && Nat.ble 1 (pcN (Nat.xor s (brN s z))))))))) = true := this
  simp only [Bool.and_eq_true] at h
  obtain ⟨h1, h2, h3, h4, h5, h6, h7⟩ := h
  exact ⟨⟨Nat.le_of_ble_eq_true h1, Nat.le_of_ble_eq_true h2⟩, ⟨Nat.le_of_ble_eq_true h3, Nat.le_of_ble_eq_true h4⟩, Nat.eq_of_beq_eq_true h5, Nat.le_of_ble_eq_true h6, Nat.le_of_ble_eq_true h7⟩
theorem pc_facts {s : Nat} (hs : s < 128) (h1 : 1 ≤ s) : 1 ≤ pcN s ∧ (rsN s = 0 → pcN s = 1) := by
  have := bl_at 128 pc_all s hs
  have e : Nat.beq s 0 = false := by
    cases q : Nat.beq s 0 with
    | false => rfl
    | true => exact absurd (Nat.eq_of_beq_eq_true q) (by omega)
  have h : (Nat.beq s 0 || (Nat.ble 1 (pcN s) && (!(Nat.beq (rsN s) 0) || Nat.beq (pcN s) 1))) = true := this
  rw [e, Bool.false_or, Bool.and_eq_true] at h
  refine ⟨Nat.le_of_ble_eq_true h.1, fun hr => ?_⟩
  have h2 := h.2
  rw [hr] at h2
  exact Nat.eq_of_beq_eq_true h2
theorem low_lt {s : Nat} (hs : s < 128) (h1 : 1 ≤ s) : lowN s 7 < 7 := by
  have h : (Nat.ble (Nat.succ (lowN s 7)) 7 || Nat.beq s 0) = true := bl_at 128 lo_all s hs
  rcases Bool.or_eq_true _ _ ▸ h with q | q
  · exact Nat.le_of_ble_eq_true q
  · exact absurd (Nat.eq_of_beq_eq_true q) (by omega)
theorem beq_f {a b : Nat} (h : a ≠ b) : Nat.beq a b = false := by
  cases q : Nat.beq a b with
  | false => rfl
  | true => exact absurd (Nat.eq_of_beq_eq_true q) h
theorem dpS_one {N f s : Nat} (h : rsN s = 0) : dpS N f s = [0] := by
  cases f with
  | zero => rfl
  | succ f =>
    show (bif Nat.beq (rsN s) 0 then [0] else _) = _
    rw [h]
    rfl
def dpx (N s : Nat) (A B : List Nat) (b : Nat) : Nat → List Nat := fun x => bif Nat.beq (Nat.mod (Nat.shiftRight b x) 2) 1 then prd A B (edgN (lowN s 7) x) else []
def dpz (N f s : Nat) : Nat → List Nat := fun z => bif Nat.beq (Nat.land z (otN s)) z then (List.range N).flatMap (dpx N s (dpS N f (brN s z)) (dpS N f (Nat.xor s (brN s z))) (brN s z)) else []
theorem dpS_more {N f s : Nat} (h : rsN s ≠ 0) : dpS N (f + 1) s = (List.range (otN s + 1)).flatMap (dpz N f s) := by
  show (bif Nat.beq (rsN s) 0 then [0] else _) = _
  rw [beq_f h]
  rfl
theorem prd_mem {A B : List Nat} {e a : Nat} (h : a ∈ prd A B e) : ∃ x y, x ∈ A ∧ y ∈ B ∧ a = x + y + e := by
  obtain ⟨x, hx, h2⟩ := List.mem_flatMap.mp h
  obtain ⟨y, hy, e⟩ := List.mem_map.mp h2
  exact ⟨x, y, hx, hy, e.symm⟩
theorem dpS_ds {N : Nat} (hN : N ≤ 7) : ∀ f s a, s < 128 → 1 ≤ s → pcN s ≤ f → a ∈ dpS N f s → dsN a + 1 = pcN s := by
  intro f
  induction f with
  | zero => intro s a hs h1 hp; have := pc_facts hs h1; omega
  | succ f ih =>
    intro s a hs h1 hp ha
    have pf := pc_facts hs h1
    by_cases hr : rsN s = 0
    · rw [dpS_one hr] at ha
      rw [List.mem_singleton.mp ha, pf.2 hr]
      show wtN _ 49 0 0 + 1 = _
      rw [wt_zero]
      rfl
    · rw [dpS_more hr] at ha
      obtain ⟨z, hz, h2⟩ := List.mem_flatMap.mp ha
      unfold dpz at h2
      cases q : Nat.beq (Nat.land z (otN s)) z with
      | false => rw [q] at h2; exact absurd h2 (by simp)
      | true =>
        rw [q] at h2
        have bf := br_facts hs hr (Nat.eq_of_beq_eq_true q)
        obtain ⟨x, hx, h3⟩ := List.mem_flatMap.mp h2
        unfold dpx at h3
        cases q2 : Nat.beq (Nat.mod (Nat.shiftRight (brN s z) x) 2) 1 with
        | false => rw [q2] at h3; exact absurd h3 (by simp)
        | true =>
          rw [q2] at h3
          obtain ⟨u, v, hu, hv, e⟩ := prd_mem h3
          have iu := ih _ u (by omega) bf.1.1 (by omega) hu
          have iv := ih _ v (by omega) bf.2.1.1 (by omega) hv
          have x7 : x < 7 := by have := List.mem_range.mp hx; omega
          have p7 : pcN s ≤ 7 := by unfold pcN; omega
          have ed := ds_edg (low_lt hs h1) x7
          have e1 := ds_plus (a := u) (b := v) (by omega)
          have e2 := ds_plus (a := u + v) (b := edgN (lowN s 7) x) (by omega)
          rw [e, e2, e1, ed]
          omega
theorem dpS_fuel {N : Nat} : ∀ f g s, s < 128 → 1 ≤ s → pcN s ≤ f → pcN s ≤ g → dpS N f s = dpS N g s := by
  intro f
  induction f with
  | zero => intro g s hs h1 hp; have := pc_facts hs h1; omega
  | succ f ih =>
    intro g s hs h1 hp hg
    have pf := pc_facts hs h1
    by_cases hr : rsN s = 0
    · rw [dpS_one hr, dpS_one hr]
    · cases g with
      | zero => omega
      | succ g =>
        rw [dpS_more hr, dpS_more hr]
        congr 1
        funext z
        unfold dpz
        cases q : Nat.beq (Nat.land z (otN s)) z with
        | false => rfl
        | true =>
          have bf := br_facts hs hr (Nat.eq_of_beq_eq_true q)
          rw [ih g (brN s z) (by omega) bf.1.1 (by omega) (by omega), ih g (Nat.xor s (brN s z)) (by omega) bf.2.1.1 (by omega) (by omega)]
/-! least, and how many -/
def IsMC (M : List Int) (p : Int × Int) : Prop := (M = [] ∧ p = (84, 0)) ∨ (p.1 ∈ M ∧ (∀ x ∈ M, p.1 ≤ x) ∧ p.2 = (M.count p.1 : Int))
def adP (p : Int × Int) (x k : Int) : Int × Int := if x < p.1 then (x, k) else if x = p.1 then (p.1, p.2 + k) else p
theorem mc_perm {M M' : List Int} {p : Int × Int} (h : IsMC M p) (e : M.Perm M') : IsMC M' p := by
  rcases h with ⟨h1, h2⟩ | ⟨h1, h2, h3⟩
  · subst h1
    exact .inl ⟨e.nil_eq.symm, h2⟩
  · exact .inr ⟨e.mem_iff.mp h1, fun x hx => h2 x (e.mem_iff.mpr hx), by rw [h3, e.count_eq]⟩
theorem mc_none {M : List Int} {x : Int} (h : ∀ y ∈ M, x < y) : M.count x = 0 := List.count_eq_zero.mpr fun hm => by have := h x hm; omega
theorem mc_app {A B : List Int} {p q : Int × Int} (hA : IsMC A p) (hB : IsMC B q) (hb : B ≠ []) (h84 : ∀ x ∈ B, x < 84) : IsMC (A ++ B) (adP p q.1 q.2) := by
  rcases hB with ⟨h1, _⟩ | ⟨b1, b2, b3⟩
  · exact absurd h1 hb
  · unfold adP
    rcases hA with ⟨a1, a2⟩ | ⟨a1, a2, a3⟩
    · subst a1 a2
      rw [if_pos (h84 _ b1)]
      exact .inr ⟨b1, b2, b3⟩
    · right
      rcases Int.lt_trichotomy q.1 p.1 with e | e | e
      · rw [if_pos e]
        refine ⟨List.mem_append_right _ b1, fun x hx => ?_, ?_⟩
        · rcases List.mem_append.mp hx with h | h
          · have := a2 x h; show q.1 ≤ x; omega
          · exact b2 x h
        · show q.2 = ((A ++ B).count q.1 : Int)
          rw [List.count_append, mc_none (M := A) (fun y hy => by have := a2 y hy; omega), b3, Nat.zero_add]
      · rw [if_neg (by omega), if_pos e]
        refine ⟨List.mem_append_left _ a1, fun x hx => ?_, ?_⟩
        · rcases List.mem_append.mp hx with h | h
          · exact a2 x h
          · have := b2 x h; show p.1 ≤ x; omega
        · show p.2 + q.2 = ((A ++ B).count p.1 : Int)
          rw [List.count_append, a3, b3, e, Int.natCast_add]
      · rw [if_neg (by omega), if_neg (by omega)]
        refine ⟨List.mem_append_left _ a1, fun x hx => ?_, ?_⟩
        · rcases List.mem_append.mp hx with h | h
          · exact a2 x h
          · have := b2 x h; omega
        · rw [List.count_append, mc_none (M := B) (fun y hy => by have := b2 y hy; omega), a3, Nat.add_zero]
def prI (A B : List Int) (e : Int) : List Int := A.flatMap fun a => B.map fun b => a + b + e
theorem cnt_map {B : List Int} {a e t : Int} : (B.map fun b => a + b + e).count t = B.count (t - a - e) := by
  induction B with
  | nil => rfl
  | cons b B ih =>
    rw [List.map_cons, List.count_cons, List.count_cons, ih]
    congr 1
    by_cases h : a + b + e = t
    · have : b = t - a - e := by omega
      rw [if_pos (by rw [h]; simp), if_pos (by rw [this]; simp)]
    · have : ¬ b = t - a - e := by omega
      rw [if_neg (by simpa using h), if_neg (by simpa using this)]
theorem mc_prd {A B : List Int} {p q : Int × Int} {e : Int} (hA : IsMC A p) (ha : A ≠ []) (hB : IsMC B q) (hb : B ≠ []) : IsMC (prI A B e) (p.1 + q.1 + e, p.2 * q.2) := by
  rcases hA with ⟨h1, _⟩ | ⟨a1, a2, a3⟩
  · exact absurd h1 ha
  rcases hB with ⟨h1, _⟩ | ⟨b1, b2, b3⟩
  · exact absurd h1 hb
  refine .inr ⟨List.mem_flatMap.mpr ⟨p.1, a1, List.mem_map.mpr ⟨q.1, b1, rfl⟩⟩, fun x hx => ?_, ?_⟩
  · obtain ⟨u, hu, h2⟩ := List.mem_flatMap.mp hx
    obtain ⟨v, hv, e2⟩ := List.mem_map.mp h2
    have := a2 u hu
    have := b2 v hv
    show p.1 + q.1 + e ≤ x
    omega
  · show p.2 * q.2 = ((prI A B e).count (p.1 + q.1 + e) : Int)
    have key : ∀ A' : List Int, (∀ x ∈ A', p.1 ≤ x) → ((prI A' B e).count (p.1 + q.1 + e) : Int) = (A'.count p.1 : Int) * (B.count q.1 : Int) := by
      intro A'
      induction A' with
      | nil => intro _; show (0 : Int) = 0 * _; rw [Int.zero_mul]
      | cons a A' ih =>
        intro h
        have i := ih fun x hx => h x (List.mem_cons_of_mem _ hx)
        have ha := h a List.mem_cons_self
        show (((B.map fun b => a + b + e) ++ prI A' B e).count (p.1 + q.1 + e) : Int) = _
        rw [List.count_append, Int.natCast_add, i, cnt_map, List.count_cons]
        by_cases h2 : a = p.1
        · rw [if_pos (by rw [h2]; simp), show p.1 + q.1 + e - a - e = q.1 from by omega, Int.natCast_add, Int.add_mul, Int.natCast_one, Int.one_mul]
          omega
        · rw [if_neg (by simpa using h2), mc_none (M := B) (fun y hy => by have := b2 y hy; omega), Nat.add_zero, Int.natCast_zero, Int.zero_add]
    rw [key A a2, a3, b3]
theorem mc_uniq {M : List Int} {p q : Int × Int} (hp : IsMC M p) (hq : IsMC M q) : p = q := by
  rcases hp with ⟨h1, h2⟩ | ⟨h1, h2, h3⟩
  · rcases hq with ⟨k1, k2⟩ | ⟨k1, k2, k3⟩
    · rw [h2, k2]
    · rw [h1] at k1; exact absurd k1 (by simp)
  · rcases hq with ⟨k1, k2⟩ | ⟨k1, k2, k3⟩
    · rw [k1] at h1; exact absurd h1 (by simp)
    · have a := h2 _ k1
      have b := k2 _ h1
      have e : p.1 = q.1 := by omega
      exact Prod.ext e (by rw [h3, k3, e])
theorem prd_wt {R : Int → Int} {A B : List Nat} {e : Nat} (h : ∀ a ∈ A, ∀ b ∈ B, dsN a + dsN b + dsN e ≤ 127) : (prd A B e).map (wt R) = prI (A.map (wt R)) (B.map (wt R)) (wt R e) := by
  induction A with
  | nil => rfl
  | cons a A ih =>
    show ((B.map fun b => a + b + e) ++ prd A B e).map (wt R) = ((B.map (wt R)).map fun b => wt R a + b + wt R e) ++ prI (A.map (wt R)) (B.map (wt R)) (wt R e)
    rw [List.map_append, ih fun x hx => h x (List.mem_cons_of_mem _ hx), List.map_map, List.map_map]
    congr 1
    refine List.map_congr_left fun b hb => ?_
    have h1 := h a List.mem_cons_self b hb
    have e0 := ds_nn e
    show wt R (a + b + e) = wt R a + wt R b + wt R e
    rw [wt_plus (by rw [ds_plus (by omega)]; exact h1), wt_plus (by omega)]
