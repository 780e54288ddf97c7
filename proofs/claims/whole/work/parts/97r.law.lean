/-! LAW, joined -/
theorem tm7_off {c : Cm} {n q : Nat} (h : q < n ∨ n + 3 ≤ q) : tm7 c n q = c q := by
  unfold tm7 tm4 tm2
  rw [up_cell (by omega), up_cell (by omega), up_cell (by omega), cpy_cell (by omega), cpy_cell (by omega), uz_ne (by omega), uz_ne (by omega), uz_ne (by omega)]
theorem c_law2 {T : List Shp} {c : Cm} {B : Int → Int} {L : Int} {X : GX} {Y : GY} {Q : Res → Prop} (hX : GRr 0 B L X) (hY : GYr 0 B L X Y) (h4 : c 0 4 = L) (hB : c 10 = B) (hbl : BLt B L) (h15 : 0 ≤ c 1 5 ∧ c 1 5 < 6) (h76 : 0 ≤ c 76 4 ∧ c 76 4 < 1000000) (kF : ∀ f c', Y 0 0 (sk B L 0) 0 [] zo (.inl f) → 0 ≤ f → (∀ q j, ¬ LCA q j → ¬ (q = 76 ∧ j = 4) → c' q j = c q j) → c' 0 4 = 0 → c' 0 14 = f → c' 0 17 = -6 → c' 76 4 = c 76 4 + 1 → Q (some (some (vI (-6)), (SH T, c')))) (kT : ∀ F c' k n, (0 ≤ k ∧ k ≤ 12) → (0 ≤ n ∧ n ≤ 450) → Y 0 0 (sk B L 0) 0 [] zo (.inr F) → (∀ q j, (q < nT T ∨ nT T + 3 ≤ q) → ¬ LCA q j → ¬ (q = 5 ∧ j = c 1 5) → ¬ (q = 1 ∧ j = 5) → c' q j = c q j) → c' 0 4 = 0 → c' 0 14 = -1 → c' 0 17 = 0 → c' 1 5 = c 1 5 + 1 → c' 5 (c 1 5) = ((nT T : Nat) : Int) + 1 → (KLF F → CTX (T3 T k n) c' (((nT T : Nat) : Int) + 1) (F.map clz)) → Q (some (some (vI (c 1 5)), (SH (T3 T k n), c')))) : Q (ccal 125 [vR 1] (SH T, c)) := by
  have n109 : 109 ≤ nT T := by unfold nT; omega
  refine W_law2 ⟨fun _ => ?_, fun z => absurd h15.2 z⟩
  rw [h4]
  refine (c_faultIn (o := 0) hX hY (.inl rfl) (show up c 0 4 0 10 = B from (up_cell (by decide)).trans hB) hbl).mono fun r1 c2 hc => ?_
  obtain ⟨f2, hc⟩ := hc
  have k2 : ∀ q j, ¬ LCA q j → c2 q j = c q j := fun q j a => by
    rw [f2 q j fun z => a z.lca]
    by_cases e : q = 0
    · subst e; exact up_ne fun z => a (.inl ⟨rfl, .inl z⟩)
    · exact congrFun (up_cell e) j
  have k04 : c2 0 4 = 0 := by rw [f2 0 4 (by unfold TXG; omega), up_same]
  rcases hc with ⟨hr, hy⟩ | ⟨hr, F, hF, hy⟩
  · have e76 : c2 76 4 = c 76 4 := k2 76 4 (by unfold LCA; omega)
    refine ⟨fun z => by omega, fun _ => ⟨by omega, ?_⟩⟩
    refine kF r1 _ hy hr (fun q j a b => ?_) ?_ ?_ ?_ ?_
    · by_cases e : q = 76
      · subst e
        rw [up_ne (by omega), up_cell (by decide), up_cell (by decide)]
        exact k2 76 j a
      · rw [up_cell e]
        by_cases e0 : q = 0
        · subst e0
          rw [up_ne (fun z => a (by unfold LCA; omega)), up_ne (fun z => a (by unfold LCA; omega))]
          exact k2 0 j a
        · rw [up_cell e0, up_cell e0]
          exact k2 q j a
    · rw [up_cell (by decide), up_ne (by decide), up_ne (by decide)]; exact k04
    · rw [up_cell (by decide), up_ne (by decide), up_same]
    · rw [up_cell (by decide), up_same]
    · rw [up_same, e76]
  · have e15 : c2 1 5 = c 1 5 := k2 1 5 (by unfold LCA; omega)
    obtain ⟨t1, t2, t3, t4, t5⟩ := hF
    refine ⟨fun _ => ⟨by omega, ?_⟩, fun z => absurd hr z⟩
    rw [e15, hr]
    have o7 : ∀ q : Nat, (q < nT T ∨ nT T + 3 ≤ q) → tm7 (up c2 0 14 (-1)) (nT T) q = up c2 0 14 (-1) q := fun q a => tm7_off a
    refine kT F _ (c2 11 2) (c2 11 3) (by omega) t3 hy (fun q j a b d e => ?_) ?_ ?_ up_same ?_ ?_ fun hk => ?_
    · by_cases e0 : q = 0
      · subst e0
        rw [up_ne (fun z => b (by unfold LCA; omega)), up_cell (by decide), up_cell (by decide), o7 0 (by omega), up_ne (fun z => b (by unfold LCA; omega))]
        exact k2 0 j b
      · rw [up_cell e0]
        by_cases e1 : q = 1
        · subst e1
          rw [up_ne (by omega), up_cell (by decide), o7 1 (by omega), up_cell (by decide)]
          exact k2 1 j b
        · rw [up_cell e1]
          by_cases e5 : q = 5
          · subst e5
            rw [up_ne (by omega), o7 5 (by omega), up_cell (by decide)]
            exact k2 5 j b
          · rw [up_cell e5, o7 q a, up_cell e0]
            exact k2 q j b
    · rw [up_ne (by decide), up_cell (by decide), up_cell (by decide), o7 0 (by omega), up_ne (by decide)]; exact k04
    · rw [up_ne (by decide), up_cell (by decide), up_cell (by decide), o7 0 (by omega), up_same]
    · rw [up_cell (by decide), up_same]
    · rw [up_cell (by decide), up_cell (by decide), up_same]
    · have tx : TXT (up c2 0 14 (-1)) 0 F := by
        refine ⟨by rw [up_cell (by decide)]; exact t1, t2, by rw [up_cell (by decide)]; exact t3, fun i z hz => ?_, t5.cong (by rw [up_cell (by decide)]) (by rw [up_cell (by decide)]) (up_cell (by decide))⟩
        rw [up_cell (q := 12) (by decide), up_cell (q := 13) (by decide), up_cell (q := 11) (by decide)]
        exact t4 i z hz
      have := ctx_new (T := T) (c := up c2 0 14 (-1)) (c' := up (up (up (tm7 (up c2 0 14 (-1)) (nT T)) 5 (c 1 5) (((nT T : Nat) : Int) + 1)) 1 5 (c 1 5 + 1)) 0 17 0) tx hk (fun q a => by rw [up_cell (by omega), up_cell (by omega), up_cell (by omega)])
      rw [up_cell (q := 11) (by decide)] at this
      exact this
theorem ZR.loc {R R' : Int → Int} {A a : Int} {z : Clz} (h : ZR R A a z) (ha : A ≤ a ∧ a + 6 < A + 900) (hc : ∀ j, A ≤ j → j < A + 900 → R' j = R j) : ZR R' A a z := by
  have mv : ∀ {p q l : Int} {d : Den}, RP 10 (RO R A) (RA R A) p q l d → 0 ≤ p → q ≤ 400 → RP 10 (RO R' A) (RA R' A) p q l d := fun h0 hp hq => h0.mv fun j a b => ⟨hc _ (by omega) (by omega), hc _ (by omega) (by omega)⟩
  unfold ZR
  rw [hc a (by omega) (by omega), hc (a + 3) (by omega) (by omega), hc (a + 4) (by omega) (by omega), hc (a + 5) (by omega) (by omega), hc (a + 6) (by omega) (by omega)]
  obtain ⟨h1, h2, h3⟩ := h
  refine ⟨h1, ?_, ?_⟩
  · cases e : z.2.1 with
    | none => rw [e] at h2; exact h2
    | some d =>
      rw [e] at h2
      obtain ⟨⟨l, p1, p2, p3, p4⟩, p5⟩ := h2
      exact ⟨⟨l, mv p1 p2 p3, p2, p3, p4⟩, p5⟩
  · cases e : z.2.2 with
    | none => rw [e] at h3; exact h3
    | some d =>
      rw [e] at h3
      obtain ⟨p0, l, p1, p2, p3, p4⟩ := h3
      exact ⟨p0, l, mv p1 p2 p3, p2, p3, p4⟩
theorem RTX.loc {R R' : Int → Int} {a : Int} {F : List Clz} (h : RTX R a F) (hc : ∀ j, a ≤ j → j < a + 900 → R' j = R j) : RTX R' a F := by
  obtain ⟨h1, h2, h3⟩ := h
  refine ⟨by rw [hc _ (by omega) (by omega)]; exact h1, h2, fun i z hz => (h3 i z hz).loc ?_ hc⟩
  have xl : i < F.length := by
    by_cases w : i < F.length
    · exact w
    · rw [List.getElem?_eq_none (by omega)] at hz; exact absurd hz (by simp)
  omega
theorem trf_more {T : List Shp} {k n r : Int} {b : Nat} (h : trf (SH T) r b = true) : trf (SH (T3 T k n)) r b = true := by
  unfold trf at h ⊢
  rcases (Bool.or_eq_true _ _).mp h with h | h
  · rw [h]; rfl
  · cases e : drf (SH T) r with
    | none => rw [e] at h; exact absurd (show false = true from h) (by decide)
    | some q =>
      rw [e] at h
      rw [drf_more e, h, Bool.or_true]
theorem CTX.more2 {T : List Shp} {c c' : Cm} {r k n : Int} {F : List Clz} (h : CTX T c r F) (hc : ∀ q, 109 ≤ q → q < nT T → c' q = c q) : CTX (T3 T k n) c' r F := h.more hc
theorem PT.more {o : Nat} {T : List Shp} {c c' : Cm} {R : Int → Int} {k n : Int} (h : PT o T c R) (e : ∀ q, o ≤ q → q ≤ o + 8 → c' q = c q) (hc : ∀ q, 109 ≤ q → q < nT T → c' q = c q) : PT o (T3 T k n) c' R := by
  obtain ⟨h1, h2, h3, h4⟩ := h
  refine ⟨h1.cells (e _ (by omega) (by omega)) (e _ (by omega) (by omega)) (e _ (by omega) (by omega)) (e _ (by omega) (by omega)) (e _ (by omega) (by omega)) (e _ (by omega) (by omega)) (e _ (by omega) (by omega)) (e _ (by omega) (by omega)), h2, fun i a b => ?_, fun x a b => ?_⟩
  · rw [e _ (by omega) (by omega)]
    obtain ⟨F, a1, a2⟩ := h3 i a b
    exact ⟨F, a1.more hc, a2⟩
  · rw [e _ (by omega) (by omega)]
    exact trf_more (h4 x a b)
theorem LWF.obf {q : Nat} {j : Int} (h : LWF q j) : OBF q j := by unfold LWF LXB RXA at h; unfold OBF; omega
theorem LCA.cbf {q : Nat} {j : Int} (h : LCA q j) : CBF q j := by unfold LCA at h; unfold CBF; omega
/-- both answer alike; there may be more cells behind -/
def JW (T : List Shp) (c : Cm) (n : Nat) : Prop := ∃ T' r c1, ccal 125 [vR 1] (SH T, c) = some (some (vI r), (SH T', c1)) ∧ SC c c1 ∧ QI T' (fun r' c2 => r' = r ∧ SC c c2 ∧ REL T' c2 (n + 1)) (ccal 244 [vR 78] (SH T', c1))
theorem j_law {T : List Shp} {c : Cm} {n : Nat} (h : REL T c n) (hn : n < 512) : JW T c n := by
  have hs := h.cs
  have hR := h.rng
  have r := hR.1
  obtain ⟨t1, t2, t3⟩ := h.2.2.1
  obtain ⟨m1, m2, m3, m4, m5⟩ := h.2.2.2.1
  have rf := h.2.2.2.2.1
  have bd := h.bd hn
  obtain ⟨g1, g2, g3, g5, g6⟩ := rf.2.1
  have e15 := hs.1.2.2.1
  have hd := h.1.2.2.2
  have tl := t2.1
  have tz := h.2.2.2.2.2.2
  have n109 : 109 ≤ nT T ∧ nT T + 3 ≤ 1000000 := by unfold nT; have := tz.1; omega
  by_cases a : c 1 5 < 6
  · refine c_law2 (Q := fun Z => ∃ T' r c1, Z = some (some (vI r), (SH T', c1)) ∧ SC c c1 ∧ QI T' (fun r' c2 => r' = r ∧ SC c c2 ∧ REL T' c2 (n + 1)) (ccal 244 [vR 78] (SH T', c1))) (X := fun m b p n d out => ∀ T' : List Shp, RS T' 0 (c 10) (c 77 9) m b p n d out) (Y := fun m k p n F z out => ∀ T' : List Shp, YL T' (c 10) (c 77 9) m k p n F z out) (GRr.all fun T' => rs_gram) (GYr.all fun T' => yl_gram) t1 rfl t2 (by omega) (by omega) (fun f c1 hy hf fr k4 k14 k17 k76 => ?_) (fun F c1 k m hk hm hy fr k4 k14 k17 k15 k5 hC => ?_)
    · have fc : Fr CBF c c1 := fun q j k => fr q j (fun z => k z.cbf) (fun z => k (by unfold CBF; omega))
      have ec : ∀ q, q = 77 ∨ q = 78 ∨ q = 79 ∨ q = 83 ∨ q = 89 ∨ q = 90 ∨ q = 91 ∨ q = 71 ∨ (1 ≤ q ∧ q ≤ 9) ∨ 109 ≤ q → c1 q = c q := fun q z => funext fun j => fr q j (fun w => by unfold LCA at w; omega) (fun w => by omega)
      have a77 := ec 77 (by omega)
      have a78 := ec 78 (by omega)
      have a79 := ec 79 (by omega)
      have k := r_law (T := T) (c := c1) (B := c 10) (L := c 77 9) (out := .inl f) (by rw [a77]) (fun j x y => by rw [ec 83 (by omega)]; exact t3 j x (by omega)) t2 (m3.cong (ec 89 (by omega)) (ec 90 (by omega)) (ec 91 (by omega))) (by rw [a79]; omega) (by rw [a78]; omega) (hy T)
      refine ⟨T, -6, c1, rfl, ⟨ec _ (by omega), ec _ (by omega)⟩, k.mono fun v c2 q => ?_⟩
      obtain ⟨q1, q0, q9, q16, q01, q2, q14, q79, q786, q78⟩ := q
      have q2 : v = -6 := q2
      subst q2
      have fo : Fr OBF c1 c2 := q1.mono fun q j z => z.obf
      have nb : ∀ q, q < 77 ∨ 108 ≤ q → c2 q = c1 q := fun q z => fo.cell fun j w => by unfold OBF at w; omega
      refine ⟨rfl, ⟨(nb _ (by omega)).trans (ec _ (by omega)), (nb _ (by omega)).trans (ec _ (by omega))⟩, h.ord fc fo (hs.cells (ec 1 (by omega)) (ec 2 (by omega)) (ec 3 (by omega)) (ec 4 (by omega)) (ec 6 (by omega)) (ec 7 (by omega)) (ec 8 (by omega)) (ec 9 (by omega))) hR rfl (fun _ _ => rfl) (fun x _ _ => by rw [ec 5 (by omega)]) ?_ (fun j _ => by rw [q79, a79]) k4 q9 (by rw [k14]; exact q14.symm) ?_ ?_ (rf.b6 ?_ q01 ?_ ?_)⟩
      · unfold B9
        rw [ec 71 (by omega)]
        exact m4
      · rw [fr 0 16 (fun w => by unfold LCA at w; omega) (fun w => by omega), q1 77 56 (fun w => by unfold LWF LXB RXA at w; omega), a77]
        exact m1.2.2
      · unfold AX at m2 ⊢
        rw [q1 77 44 (fun w => by unfold LWF LXB RXA at w; omega), q1 77 45 (fun w => by unfold LWF LXB RXA at w; omega), a77]
        exact ⟨q16, m2.2⟩
      · rw [nb 0 (by omega), k17]
      · rw [nb 76 (by omega)]
        funext j
        unfold rU
        by_cases e : j = 4
        · rw [if_pos e, e, k76]
        · rw [if_neg e]
          exact fr 76 j (fun w => by unfold LCA at w; omega) (fun w => e w.2)
      · funext j
        unfold rU
        by_cases e : j = 6
        · rw [if_pos e, e, q786, a78]
        · rw [if_neg e, q78 j e, a78]
    · have ec : ∀ q, q = 77 ∨ q = 78 ∨ q = 79 ∨ q = 83 ∨ q = 89 ∨ q = 90 ∨ q = 91 ∨ q = 71 ∨ (2 ≤ q ∧ q ≤ 4) ∨ (6 ≤ q ∧ q ≤ 10) ∨ (29 ≤ q ∧ q ≤ 47) ∨ (73 ≤ q ∧ q ≤ 76) ∨ q = 80 ∨ q = 82 ∨ q = 108 ∨ (109 ≤ q ∧ (q < nT T ∨ nT T + 3 ≤ q)) → c1 q = c q := fun q z => funext fun j => fr q j (by omega) (fun w => by unfold LCA at w; omega) (fun w => by omega) (fun w => by omega)
      have a77 := ec 77 (by omega)
      have a78 := ec 78 (by omega)
      have a79 := ec 79 (by omega)
      have k1 : ∀ j, j ≠ 5 → c1 1 j = c 1 j := fun j z => fr 1 j (by omega) (fun w => by unfold LCA at w; omega) (fun w => by omega) (fun w => z w.2)
      have kx5 : ∀ x, x ≠ c 1 5 → c1 5 x = c 5 x := fun x z => fr 5 x (by omega) (fun w => by unfold LCA at w; omega) (fun w => z w.2) (fun w => by omega)
      have q := r_law (T := T3 T k m) (c := c1) (B := c 10) (L := c 77 9) (out := .inr F) (by rw [a77]) (fun j x y => by rw [ec 83 (by omega)]; exact t3 j x (by omega)) t2 (m3.cong (ec 89 (by omega)) (ec 90 (by omega)) (ec 91 (by omega))) (by rw [a79]; omega) (by rw [a78]; omega) (hy (T3 T k m))
      refine ⟨T3 T k m, c 1 5, c1, rfl, ⟨ec _ (by omega), ec _ (by omega)⟩, q.mono fun v c2 q => ?_⟩
      obtain ⟨q1, q0, q9, q16, q01, q2, q14, q78, q791, q79, qK, qX⟩ := q
      rw [a79] at q2 q791 q79 qX
      rw [a78] at q78
      have q2 : v = c 79 1 := q2
      have fo : Fr OBF c1 c2 := q1.mono fun q j z => z.obf
      have nb : ∀ q, q < 77 ∨ q = 80 ∨ q = 82 ∨ q = 83 ∨ (89 ≤ q ∧ q ≤ 91) ∨ 108 ≤ q → c2 q = c1 q := fun q z => fo.cell fun j w => by unfold OBF at w; omega
      have f77 : ∀ j, j = 7 ∨ j = 44 ∨ j = 45 ∨ j = 56 ∨ j = 59 ∨ j = 60 → c2 77 j = c 77 j := fun j z => by rw [q1 77 j (fun w => by unfold LWF LXB RXA at w; omega), a77]
      have z0 : ∀ j, j ≠ 4 → j ≠ 14 → j ≠ 17 → c2 0 j = c 0 j := fun j x y z => by
        rw [nb 0 (by omega)]
        exact fr 0 j (by omega) (fun w => by unfold LCA at w; omega) (fun w => by omega) (fun w => by omega)
      have o79 : ∀ j, j ≠ 1 → j < 380 → c2 79 j = c 79 j := fun j x y => q79 j x (by omega)
      have both : ∀ q, q = 10 ∨ (29 ≤ q ∧ q ≤ 47) ∨ (73 ≤ q ∧ q ≤ 76) ∨ q = 80 ∨ q = 82 ∨ q = 83 ∨ (89 ≤ q ∧ q ≤ 91) ∨ q = 108 ∨ q = 71 → c2 q = c q := fun q z => (nb q (by omega)).trans (ec q (by omega))
      have big : ∀ q, 109 ≤ q → q < nT T → c2 q = c q := fun q z w => (nb q (by omega)).trans (ec q (by omega))
      have hR2 : RNG (c2 79) := by
        refine ⟨?_, fun i x y => ?_, fun l x y => ?_, fun p x y => ?_, fun p k x y x2 y2 => ?_, fun s x y => ?_, fun i x y => ?_, fun q x y => ?_⟩
        · rw [q791, o79 0 (by decide) (by decide), o79 2 (by decide) (by decide), o79 3 (by decide) (by decide), o79 4 (by decide) (by decide), o79 5 (by decide) (by decide), o79 6 (by decide) (by decide), o79 7 (by decide) (by decide), o79 8 (by decide) (by decide), o79 9 (by decide) (by decide), o79 10 (by decide) (by decide), o79 11 (by decide) (by decide)]
          omega
        · rw [o79 _ (by omega) (by omega)]; exact hR.2.1 i x y
        · rw [o79 4 (by decide) (by decide)] at y
          rw [o79 _ (by omega) (by omega), o79 0 (by decide) (by decide)]; exact hR.2.2.1 l x y
        · rw [o79 0 (by decide) (by decide)] at y
          rw [o79 _ (by omega) (by omega), o79 _ (by omega) (by omega)]; exact hR.2.2.2.1 p x y
        · rw [o79 0 (by decide) (by decide)] at y
          rw [o79 _ (by omega) (by omega)]; exact hR.2.2.2.2.1 p k x y x2 y2
        · rw [o79 3 (by decide) (by decide)] at y
          rw [o79 _ (by omega) (by omega), o79 _ (by omega) (by omega), o79 _ (by omega) (by omega)]; exact hR.2.2.2.2.2.1 s x y
        · rw [o79 _ (by omega) (by omega)]; exact hR.2.2.2.2.2.2.1 i x y
        · rw [o79 6 (by decide) (by decide)] at y
          rw [o79 _ (by omega) (by omega), o79 _ (by omega) (by omega), o79 _ (by omega) (by omega), o79 _ (by omega) (by omega)]; exact hR.2.2.2.2.2.2.2 q x y
      have hS2 : CS c2 (c2 79) := by
        obtain ⟨⟨b0, b1, b2, b3, b4, b5, b6, b7, b8, b9, b10, b11⟩, d2, d3, d6, d7, d8, d9⟩ := hs
        have s1 : ∀ j, j ≠ 5 → c2 1 j = c 1 j := fun j z => (congrFun (nb 1 (by omega)) j).trans (k1 j z)
        have sq : ∀ q, (2 ≤ q ∧ q ≤ 4) ∨ (6 ≤ q ∧ q ≤ 9) → ∀ j, c2 q j = c q j := fun q z j => congrFun ((nb q (by omega)).trans (ec q (by omega))) j
        refine ⟨⟨?_, ?_, ?_, ?_, ?_, ?_, ?_, ?_, ?_, ?_, ?_, ?_⟩, fun j p q => ?_, fun j p q => ?_, fun j p q => ?_, fun j p q => ?_, fun j p q => ?_, fun j p q => ?_⟩
        · rw [o79 0 (by decide) (by decide)]; exact (s1 0 (by decide)).trans b0
        · rw [o79 3 (by decide) (by decide)]; exact (s1 2 (by decide)).trans b1
        · rw [q791, nb 1 (by omega), k15, b2]
        · rw [o79 2 (by decide) (by decide)]; exact (s1 7 (by decide)).trans b3
        · rw [o79 4 (by decide) (by decide)]; exact (s1 8 (by decide)).trans b4
        · rw [o79 5 (by decide) (by decide)]; exact (s1 11 (by decide)).trans b5
        · rw [o79 6 (by decide) (by decide)]; exact (s1 13 (by decide)).trans b6
        · rw [o79 7 (by decide) (by decide)]; exact (sq 4 (by omega) 0).trans b7
        · rw [o79 8 (by decide) (by decide)]; exact (sq 4 (by omega) 1).trans b8
        · rw [o79 9 (by decide) (by decide)]; exact (sq 4 (by omega) 2).trans b9
        · rw [o79 10 (by decide) (by decide)]; exact (sq 4 (by omega) 3).trans b10
        · rw [o79 11 (by decide) (by decide)]; exact (sq 4 (by omega) 4).trans b11
        · rw [o79 _ (by omega) (by omega)]; exact (sq 2 (by omega) j).trans (d2 j p q)
        · rw [o79 3 (by decide) (by decide)] at q
          rw [o79 _ (by omega) (by omega)]; exact (sq 3 (by omega) j).trans (d3 j p q)
        · rw [o79 _ (by omega) (by omega)]; exact (sq 6 (by omega) j).trans (d6 j p q)
        · rw [o79 _ (by omega) (by omega)]; exact (sq 7 (by omega) j).trans (d7 j p q)
        · rw [o79 _ (by omega) (by omega)]; exact (sq 8 (by omega) j).trans (d8 j p q)
        · rw [o79 _ (by omega) (by omega)]; exact (sq 9 (by omega) j).trans (d9 j p q)
      have hI2 : IMG (T3 T k m) c2 := by
        obtain ⟨i1, i2, i3, i4⟩ := h.2.1
        have er : ∀ k, IR c2 k = IR c k := fun k => by unfold IR; rw [both 80 (by omega)]
        unfold IMG
        rw [z0 2 (by decide) (by decide) (by decide), both 82 (by omega), both 29 (by omega), er, er]
        exact ⟨i1, i2, fun w => (i3 w).more (fun q x y => both q (by omega)) big, fun w => (i4 w).more (fun q x y => both q (by omega)) big⟩
      refine ⟨by rw [q2, e15], ⟨(nb _ (by omega)).trans (ec _ (by omega)), (nb _ (by omega)).trans (ec _ (by omega))⟩, h.g3 ⟨hS2, hR2, fun i x y => ?_, fun x y z => ?_⟩ hI2 ⟨?_, ⟨by omega, ?_⟩, ?_⟩ ⟨?_, ?_, ?_⟩ ?_ ?_ (both 89 (by omega)) (both 90 (by omega)) (both 91 (by omega)) (both 73 (by omega)) (both 74 (by omega)) (both 75 (by omega)) (both 108 (by omega)) (f77 59 (by omega)) (f77 60 (by omega)) (rf.ok ?_ ?_ (both 76 (by omega)) q78) (fun j x => ?_) ⟨?_, ?_⟩⟩
      · show ∃ F, CTX (T3 T k m) c2 (c2 5 i) F ∧ RTX (c2 79) (380 + 900 * i) F
        rw [q791] at y
        by_cases e : i = c 79 1
        · subst e
          refine ⟨F.map clz, ?_, qX⟩
          have hC2 : CTX (T3 T k m) c1 (((nT T : Nat) : Int) + 1) (F.map clz) := hC qK
          have e5 : c2 5 (c 79 1) = ((nT T : Nat) : Int) + 1 := by rw [nb 5 (by omega), ← e15]; exact k5
          rw [e5]
          exact hC2.cg fun q z => nb q (by omega)
        · obtain ⟨G, y1, y2⟩ := h.1.2.2.1 i x (by omega)
          have y1 : CTX T c (c 5 i) G := y1
          refine ⟨G, ?_, y2.loc fun j z w => q79 j (by omega) (by omega)⟩
          rw [nb 5 (by omega), kx5 i (by omega)]
          exact y1.more big
      · show trf (SH (T3 T k m)) (c2 5 x) 20 = true
        rw [nb 5 (by omega)]
        by_cases e : x = c 1 5
        · rw [e, k5]
          exact trf_of d3a
        · rw [kx5 x e]
          exact trf_more (hd x y z)
      · rw [nb 0 (by omega), k4, q9]
      · rw [both 10 (by omega)]; exact t2.2
      · rw [both 10 (by omega), both 83 (by omega)]; exact t3
      · rw [nb 0 (by omega), k14]; exact q14.symm
      · rw [z0 15 (by decide) (by decide) (by decide), f77 7 (by omega)]; exact m1.2.1
      · rw [z0 16 (by decide) (by decide) (by decide), f77 56 (by omega)]; exact m1.2.2
      · unfold AX at m2 ⊢
        rw [f77 44 (by omega), f77 45 (by omega)]
        exact ⟨q16, m2.2⟩
      · unfold B9
        rw [both 71 (by omega)]
        exact m4
      · rw [nb 0 (by omega), k17]
      · rw [q01, if_neg (by omega)]
      · rw [q79 j (by omega) (by omega)]
        exact m5 j x
      · show (T ++ [_, _, _]).length ≤ _
        rw [List.length_append]
        have := tz.1
        show T.length + 3 ≤ 3 * (n + 1)
        omega
      · intro s hs'
        rcases List.mem_append.mp hs' with w | w
        · exact tz.2 s w
        · simp only [List.mem_cons, List.not_mem_nil, or_false] at w
          rcases w with w | w | w <;> subst w
          · exact ⟨by show (0 : Int) ≤ 5; decide, by show (5 : Int) ≤ 450; decide⟩
          · exact ⟨by show (0 : Int) ≤ k * 6; omega, by show k * 6 ≤ 450; omega⟩
          · exact hm
  · have e6 : c 79 1 = 6 := by omega
    have E : ccal 125 [vR 1] (SH T, c) = some (some (vI (-5)), (SH T, (up (up (up c 0 4 0) 0 17 (-5)) 76 3 (c 76 3 + 1)))) := W_law2 (Q := fun Z => Z = some (some (vI (-5)), (SH T, (up (up (up c 0 4 0) 0 17 (-5)) 76 3 (c 76 3 + 1))))) ⟨fun z => absurd z a, fun _ => ⟨by omega, rfl⟩⟩
    refine ⟨T, -5, _, E, ((SC.rfl.wr (by decide)).wr (by decide)).wr (by decide), ?_⟩
    refine W_X12_law (Q := QI T _) ⟨fun _ => ⟨?_, QI.ret ⟨rfl, ?_, ?_⟩⟩, fun z => ?_⟩
    · show -2147483648 ≤ c 78 5 + 1 ∧ c 78 5 + 1 < 2147483648
      omega
    · repeat' (first | exact SC.rfl | refine SC.wr ?_ ?_ | decide)
    · refine h.ord (c5 := up (up (up c 0 4 0) 0 17 (-5)) 76 3 (c 76 3 + 1)) (((Fr.rfl.wr (by unfold CBF; omega)).wr (by unfold CBF; omega)).wr (by unfold CBF; omega)) ((((Fr.rfl.wr (by unfold OBF; omega)).wr (by unfold OBF; omega)).wr (by unfold OBF; omega)).wr (by unfold OBF; omega)) (hs.cells rfl rfl rfl rfl rfl rfl rfl rfl) hR rfl (fun _ _ => rfl) (fun _ _ _ => rfl) m4 (fun _ _ => rfl) rfl rfl m1.1 m1.2.2 m2 (rf.b5 rfl rfl (funext fun j => rfl) (funext fun j => rfl))
    · replace z : ¬ c 79 1 = 6 := z
      exact absurd e6 z
