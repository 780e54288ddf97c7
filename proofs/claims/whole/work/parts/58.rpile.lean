/-! THE REFERENCE READS: its pile -/
def RXA (q : Nat) (j : Int) : Prop := (q = 77 ∧ ((10 ≤ j ∧ j ≤ 15) ∨ j = 19 ∨ j = 22 ∨ j = 25 ∨ j = 26)) ∨ (85 ≤ q ∧ q ≤ 88)
theorem NXR.rxa {q : Nat} {j : Int} (h : NXR q j) : RXA q j := by
  unfold NXR at h; unfold RXA; omega
abbrev Pil : Type := List (Int × Int)
/-- the pile lies in the memory; its top stands first -/
def PLm (c : Cm) : Pil → Prop
  | [] => True
  | e :: r => c 87 (r.length : Int) = e.1 ∧ c 88 (r.length : Int) = e.2 ∧ PLm c r
theorem PLm.cong {c c' : Cm} : ∀ {P : Pil}, PLm c P → (∀ j : Int, j < P.length → c' 87 j = c 87 j ∧ c' 88 j = c 88 j) → PLm c' P
  | [], _, _ => trivial
  | e :: r, h, k => by
    have el : ((e :: r).length : Int) = r.length + 1 := by rw [List.length_cons]; omega
    have k1 := k r.length (by omega)
    exact ⟨k1.1.trans h.1, k1.2.trans h.2.1, PLm.cong h.2.2 fun j a => k j (by omega)⟩
/-- its entries are such as can be -/
def PV (P : Pil) : Prop := ∀ e, e ∈ P → (20 ≤ e.1 ∧ e.1 ≤ 31) ∧ (e.1 = 28 ∨ e.1 = 29 → 0 ≤ e.2 ∧ e.2 < 400)
theorem PV.tail {e : Int × Int} {P : Pil} (h : PV (e :: P)) : PV P := fun x hx => h x (List.mem_cons_of_mem _ hx)
/-- how strongly the top binds -/
def tpb (P : Pil) : Int := match P with | [] => 0 | e :: _ => bnd e.1
/-- the innermost bracket -/
def inn : Pil → Int
  | [] => -1
  | e :: r => if 30 ≤ e.1 then e.1 else inn r
/-- a comparison beneath sums -/
def cmd : Pil → Bool
  | [] => false
  | e :: r => if 20 ≤ e.1 ∧ e.1 ≤ 23 then cmd r else decide (24 ≤ e.1 ∧ e.1 ≤ 26)
/-- what stands on the pile, with an operand x from m on that has l leaves, makes d with k leaves from q0 on -/
def PXv (NW : Int) (P A : Int → Int) : Pil → Int → Int → Int → Den → Int → Den → Prop
  | [], q0, m, l, x, k, d => q0 = m ∧ k = l ∧ d = x
  | e :: r, q0, m, l, x, k, d =>
    (20 ≤ e.1 ∧ e.1 ≤ 26 ∧ ∃ m1 l1 a, RP NW P A m1 m l1 a ∧ PXv NW P A r q0 m1 (l1 + l) (dbin (e.1 - 18) a x) k d) ∨
    (e.1 = 27 ∧ TDn x ∧ PXv NW P A r q0 m l (dnot x) k d) ∨
    ((e.1 = 28 ∨ e.1 = 29) ∧ P e.2 = e.1 ∧ m = e.2 + 1 ∧ 0 ≤ e.2 ∧ ∃ m1 l1 a, RP NW P A m1 e.2 l1 a ∧ PXv NW P A r q0 m1 (l1 + l) (dor (39 - e.1) a x) k d)
theorem PXv.le {NW : Int} {P A : Int → Int} : ∀ {s : Pil} {q0 m l k : Int} {x d : Den}, PXv NW P A s q0 m l x k d → q0 ≤ m
  | [], _, _, _, _, _, _, h => by have := h.1; omega
  | e :: r, q0, m, l, k, x, d, h => by
    rcases h with ⟨_, _, m1, l1, a, h1, h2⟩ | ⟨_, _, h2⟩ | ⟨_, _, h0, _, m1, l1, a, h1, h2⟩
    · have := h2.le; have := h1.lt; omega
    · exact h2.le
    · have := h2.le; have := h1.lt; omega
theorem PXv.mv {NW : Int} {P A P' A' : Int → Int} : ∀ {s : Pil} {q0 m l k : Int} {x d : Den}, PXv NW P A s q0 m l x k d → (∀ j, q0 ≤ j → j < m → P' j = P j ∧ A' j = A j) → PXv NW P' A' s q0 m l x k d
  | [], _, _, _, _, _, _, h, _ => h
  | e :: r, q0, m, l, k, x, d, h, hs => by
    rcases h with ⟨a1, a2, m1, l1, a, h1, h2⟩ | ⟨a1, a2, h2⟩ | ⟨a1, a2, h0, hp, m1, l1, a, h1, h2⟩
    · have e1 := h2.le
      have e2 := h1.lt
      exact .inl ⟨a1, a2, m1, l1, a, h1.mv fun j b c => hs j (by omega) c, h2.mv fun j b c => hs j b (by omega)⟩
    · exact .inr (.inl ⟨a1, a2, h2.mv hs⟩)
    · have e1 := h2.le
      have e2 := h1.lt
      exact .inr (.inr ⟨a1, by rw [(hs e.2 (by omega) (by omega)).1]; exact a2, h0, hp, m1, l1, a, h1.mv fun j b c => hs j (by omega) (by omega), h2.mv fun j b c => hs j b (by omega)⟩)
/-- two segments -/
theorem PXv.app {NW : Int} {P A : Int → Int} : ∀ {s t : Pil} {q0 m1 m l k1 k : Int} {x d1 d : Den}, PXv NW P A s m1 m l x k1 d1 → PXv NW P A t q0 m1 k1 d1 k d → PXv NW P A (s ++ t) q0 m l x k d
  | [], t, q0, m1, m, l, k1, k, x, d1, d, h, h2 => by
    obtain ⟨a, b, c⟩ := h
    subst a b c
    exact h2
  | e :: r, t, q0, m1, m, l, k1, k, x, d1, d, h, h2 => by
    rcases h with ⟨a1, a2, m2, l1, a, h1, h3⟩ | ⟨a1, a2, h3⟩ | ⟨a1, a2, h0, hp, m2, l1, a, h1, h3⟩
    · exact .inl ⟨a1, a2, m2, l1, a, h1, h3.app h2⟩
    · exact .inr (.inl ⟨a1, a2, h3.app h2⟩)
    · exact .inr (.inr ⟨a1, a2, h0, hp, m2, l1, a, h1, h3.app h2⟩)
/-- the frame of settling: pieces alone, from place q0 on -/
def STL (c c' : Cm) (q0 : Int) : Prop := (∀ q j, ¬ ((q = 77 ∧ (j = 19 ∨ j = 25)) ∨ q = 85 ∨ q = 86) → c' q j = c q j) ∧ ∀ j, j < q0 → c' 85 j = c 85 j ∧ c' 86 j = c 86 j
theorem STL.rxa {c c' : Cm} {q0 : Int} (h : STL c c' q0) : Fr RXA c c' := fun q j hn => h.1 q j fun k => hn (by unfold RXA; omega)
theorem r_settle {T : List Shp} {NW k : Int} {P : Pil} (hP : tpb P < k) : ∀ (s : Pil) (c : Cm) (q0 m l kk : Int) (x d : Den), (∀ e, e ∈ s → k ≤ bnd e.1 ∧ e.1 < 30) → PXv NW (c 85) (c 86) s q0 m l x kk d → RP NW (c 85) (c 86) m (c 77 19) l x → c 77 25 = ((s ++ P).length : Int) → PLm c (s ++ P) → 0 ≤ q0 → c 77 19 + ((s ++ P).length : Int) ≤ 400 → QV T (fun c' => STL c c' q0 ∧ c' 77 25 = (P.length : Int) ∧ RP NW (c' 85) (c' 86) q0 (c' 77 19) kk d ∧ c' 77 19 + (P.length : Int) ≤ c 77 19 + ((s ++ P).length : Int)) (cev 229 2 0 [vR 78, vI k] [] (SH T, c)) := by
  intro s
  induction s with
  | nil =>
    intro c q0 m l kk x d hs hx hr h25 hl hq hn
    obtain ⟨a, b, e⟩ := hx
    subst a b e
    have lt := hr.lt
    rw [List.nil_append] at h25 hl hn ⊢
    have fin : QV T (fun c' => STL c c' q0 ∧ c' 77 25 = (P.length : Int) ∧ RP NW (c' 85) (c' 86) q0 (c' 77 19) kk d ∧ c' 77 19 + (P.length : Int) ≤ c 77 19 + (P.length : Int)) (some (none, (SH T, c))) := QV.ret ⟨⟨fun _ _ _ => rfl, fun _ _ => ⟨rfl, rfl⟩⟩, h25, hr, Int.le_refl _⟩
    refine W_X12_settle (Q := QV T _) ⟨fun h => ⟨by omega, fun _ => fin, fun z => ?_⟩, fun _ => fin⟩
    cases P with
    | nil => rw [h25] at h; exact absurd h (by decide)
    | cons e r =>
      have el : ((e :: r).length : Int) = r.length + 1 := by rw [List.length_cons]; omega
      rw [h25, el, show (r.length : Int) + 1 - 1 = r.length from by omega, hl.1] at z
      exact absurd hP z
  | cons e r ih =>
    intro c q0 m l kk x d hs hx hr h25 hl hq hn
    have lt := hr.lt
    have el : (((e :: r) ++ P).length : Int) = ((r ++ P).length : Int) + 1 := by rw [List.cons_append, List.length_cons]; omega
    have he := hs e List.mem_cons_self
    rw [List.cons_append] at hl
    obtain ⟨l1, l2, l3⟩ := hl
    rw [el] at h25 hn ⊢
    have qm : q0 ≤ m := hx.le
    refine W_X12_settle (Q := QV T _) ⟨fun _ => ⟨by omega, ?_⟩, fun z => absurd (show 0 < c 77 25 by omega) z⟩
    rw [h25, show ((r ++ P).length : Int) + 1 - 1 = ((r ++ P).length : Int) from by omega, l1]
    refine ⟨fun z => absurd he.1 (by omega), fun _ => ⟨by omega, ?_⟩⟩
    have out : ∀ c1 c' : Cm, STL c c1 q0 → c1 77 19 + ((r ++ P).length : Int) ≤ c 77 19 + (((r ++ P).length : Int) + 1) → (STL c1 c' q0 ∧ c' 77 25 = (P.length : Int) ∧ RP NW (c' 85) (c' 86) q0 (c' 77 19) kk d ∧ c' 77 19 + (P.length : Int) ≤ c1 77 19 + ((r ++ P).length : Int)) → STL c c' q0 ∧ c' 77 25 = (P.length : Int) ∧ RP NW (c' 85) (c' 86) q0 (c' 77 19) kk d ∧ c' 77 19 + (P.length : Int) ≤ c 77 19 + (((r ++ P).length : Int) + 1) := by
      intro c1 c' h1 h2 ⟨h3, h4, h5, h6⟩
      exact ⟨⟨fun q j hn => (h3.1 q j hn).trans (h1.1 q j hn), fun j a => ⟨(h3.2 j a).1.trans (h1.2 j a).1, (h3.2 j a).2.trans (h1.2 j a).2⟩⟩, h4, h5, by omega⟩
    rcases hx with ⟨a1, a2, m1, k1, a, h1, h2⟩ | ⟨a1, a2, h2⟩ | ⟨a1, a2, h0, hp, m1, k1, a, h1, h2⟩
    · have q1 := h2.le
      have q2 := h1.lt
      refine ⟨fun z => by omega, fun _ => ⟨by omega, fun z => by omega, fun _ => ⟨by omega, ?_⟩⟩⟩
      generalize hc : up (up (up (up c 77 25 ((r ++ P).length : Int)) 85 (c 77 19) e.1) 86 (c 77 19) 0) 77 19 (c 77 19 + 1) = c1
      have g19 : c1 77 19 = c 77 19 + 1 := by rw [← hc, up_same]
      have g25 : c1 77 25 = ((r ++ P).length : Int) := by rw [← hc, up_ne (by decide), up_cell (by decide), up_cell (by decide), up_same]
      have g85 : ∀ j, c1 85 j = if j = c 77 19 then e.1 else c 85 j := fun j => by rw [← hc, up_cell (by decide), up_cell (by decide), up_at, up_cell (by decide)]
      have g86 : ∀ j, c1 86 j = if j = c 77 19 then 0 else c 86 j := fun j => by rw [← hc, up_cell (by decide), up_at, up_cell (by decide), up_cell (by decide)]
      have gq : ∀ q j, ¬ ((q = 77 ∧ (j = 19 ∨ j = 25)) ∨ q = 85 ∨ q = 86) → c1 q j = c q j := by
        intro q j hn
        rw [← hc]
        by_cases e77 : q = 77
        · subst e77
          rw [up_ne (by omega), up_cell (by decide), up_cell (by decide), up_ne (by omega)]
        · rw [up_cell e77, up_cell (by omega), up_cell (by omega), up_cell e77]
      clear hc
      have mv : ∀ j, j < c 77 19 → c1 85 j = c 85 j ∧ c1 86 j = c 86 j := fun j b => ⟨by rw [g85, if_neg (by omega)], by rw [g86, if_neg (by omega)]⟩
      refine (ih c1 q0 m1 (k1 + l) kk (dbin (e.1 - 18) a x) d (fun y hy => hs y (List.mem_cons_of_mem _ hy)) (h2.mv fun j b b2 => mv j (by omega)) ?_ g25 (l3.cong fun j b => ⟨gq 87 j (by omega), gq 88 j (by omega)⟩) hq (by omega)).mono fun c' h' => out c1 c' ⟨gq, fun j b => mv j (by omega)⟩ (by omega) h'
      rw [g19]
      exact RP.bin (h1.mv fun j b b2 => mv j (by omega)) (hr.mv fun j b b2 => mv j b2) (by omega) (by omega) (by rw [g85, if_pos rfl]; omega)
    · have q1 := h2.le
      refine ⟨fun z => by omega, fun _ => ⟨by omega, fun z => by omega, fun _ => ⟨by omega, ?_⟩⟩⟩
      generalize hc : up (up (up (up c 77 25 ((r ++ P).length : Int)) 85 (c 77 19) e.1) 86 (c 77 19) 0) 77 19 (c 77 19 + 1) = c1
      have g19 : c1 77 19 = c 77 19 + 1 := by rw [← hc, up_same]
      have g25 : c1 77 25 = ((r ++ P).length : Int) := by rw [← hc, up_ne (by decide), up_cell (by decide), up_cell (by decide), up_same]
      have g85 : ∀ j, c1 85 j = if j = c 77 19 then e.1 else c 85 j := fun j => by rw [← hc, up_cell (by decide), up_cell (by decide), up_at, up_cell (by decide)]
      have g86 : ∀ j, c1 86 j = if j = c 77 19 then 0 else c 86 j := fun j => by rw [← hc, up_cell (by decide), up_at, up_cell (by decide), up_cell (by decide)]
      have gq : ∀ q j, ¬ ((q = 77 ∧ (j = 19 ∨ j = 25)) ∨ q = 85 ∨ q = 86) → c1 q j = c q j := by
        intro q j hn
        rw [← hc]
        by_cases e77 : q = 77
        · subst e77
          rw [up_ne (by omega), up_cell (by decide), up_cell (by decide), up_ne (by omega)]
        · rw [up_cell e77, up_cell (by omega), up_cell (by omega), up_cell e77]
      clear hc
      have mv : ∀ j, j < c 77 19 → c1 85 j = c 85 j ∧ c1 86 j = c 86 j := fun j b => ⟨by rw [g85, if_neg (by omega)], by rw [g86, if_neg (by omega)]⟩
      refine (ih c1 q0 m l kk (dnot x) d (fun y hy => hs y (List.mem_cons_of_mem _ hy)) (h2.mv fun j b b2 => mv j (by omega)) ?_ g25 (l3.cong fun j b => ⟨gq 87 j (by omega), gq 88 j (by omega)⟩) hq (by omega)).mono fun c' h' => out c1 c' ⟨gq, fun j b => mv j (by omega)⟩ (by omega) h'
      rw [g19]
      exact RP.not (hr.mv fun j b b2 => mv j b2) a2 (by rw [g85, if_pos rfl]; omega)
    · have q1 := h2.le
      have q2 := h1.lt
      have g : QV T (fun c' => STL c c' q0 ∧ c' 77 25 = (P.length : Int) ∧ RP NW (c' 85) (c' 86) q0 (c' 77 19) kk d ∧ c' 77 19 + (P.length : Int) ≤ c 77 19 + (((r ++ P).length : Int) + 1)) (cev 229 2 63 [vR 78, vI k] [] (SH T, up c 77 25 ((r ++ P).length : Int))) := by
        have e88 : up c 77 25 ((r ++ P).length : Int) 88 (up c 77 25 ((r ++ P).length : Int) 77 25) = e.2 := by rw [up_same, up_cell (by decide)]; exact l2
        refine W_X12_settle_63 ⟨⟨by rw [up_same]; omega, by rw [e88]; omega⟩, ?_⟩
        rw [e88, up_ne (by decide)]
        generalize hc : up (up c 77 25 ((r ++ P).length : Int)) 86 e.2 (c 77 19) = c1
        have g19 : c1 77 19 = c 77 19 := by rw [← hc, up_cell (by decide), up_ne (by decide)]
        have g25 : c1 77 25 = ((r ++ P).length : Int) := by rw [← hc, up_cell (by decide), up_same]
        have g85 : c1 85 = c 85 := by rw [← hc, up_cell (by decide), up_cell (by decide)]
        have g86 : ∀ j, c1 86 j = if j = e.2 then c 77 19 else c 86 j := fun j => by rw [← hc, up_at, up_cell (by decide)]
        have gq : ∀ q j, ¬ ((q = 77 ∧ (j = 19 ∨ j = 25)) ∨ q = 85 ∨ q = 86) → c1 q j = c q j := by
          intro q j hn
          rw [← hc, up_cell (by omega)]
          by_cases e77 : q = 77
          · subst e77
            exact up_ne (by omega)
          · exact congrFun (up_cell e77) j
        clear hc
        have mv : ∀ j, ¬ j = e.2 → c1 85 j = c 85 j ∧ c1 86 j = c 86 j := fun j b => ⟨by rw [g85], by rw [g86, if_neg b]⟩
        refine (ih c1 q0 m1 (k1 + l) kk (dor (39 - e.1) a x) d (fun y hy => hs y (List.mem_cons_of_mem _ hy)) (h2.mv fun j b b2 => mv j (by omega)) ?_ g25 (l3.cong fun j b => ⟨gq 87 j (by omega), gq 88 j (by omega)⟩) hq (by omega)).mono fun c' h' => out c1 c' ⟨gq, fun j b => mv j (by omega)⟩ (by omega) h'
        rw [g19]
        refine RP.or (m := e.2) (h1.mv fun j b b2 => mv j (by omega)) ?_ (by omega) (by rw [g85]; omega) (by rw [g86, if_pos rfl])
        rw [← h0]
        exact hr.mv fun j b b2 => mv j (by omega)
      exact ⟨fun _ => g, fun z1 => ⟨by omega, fun _ => g, fun z2 => by omega⟩⟩
