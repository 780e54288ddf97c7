/-! THE CLASS's law(): its new text -/
theorem drf_lt {T : List Shp} {r : Int} {u : Nat} {s : Shp} (h : drf (SH T) r = some (u, s)) : u < nT T := by
  unfold drf at h
  split at h
  · rename_i m
    cases e : (SH T)[m]? with
    | none => rw [e] at h; exact absurd h (by simp)
    | some s' =>
      rw [e] at h
      have h' : some (m, s') = some (u, s) := h
      injection h' with h'
      injection h' with h' _
      have lt : m < (SH T).length := by
        by_cases w : m < (SH T).length
        · exact w
        · rw [List.getElem?_eq_none (by omega)] at e; exact absurd e (by simp)
      rw [sh_len] at lt
      unfold nT
      omega
  · exact absurd h (by simp)
/-- the elder texts stand -/
theorem CTX.more {T : List Shp} {c c' : Cm} {r k n : Int} {F : List Clz} (h : CTX T c r F) (hc : ∀ q, 109 ≤ q → q < nT T → c' q = c q) : CTX (T3 T k n) c' r F := by
  obtain ⟨u, w, v, n2, f3, nw, fw, nv, fv, e1, e2, e3, hb, h1, h2, h3, h4⟩ := h
  refine ⟨u, w, v, n2, f3, nw, fw, nv, fv, drf_more e1, drf_more e2, drf_more e3, hb, ?_⟩
  rw [hc u hb.1 (drf_lt e1), hc w hb.2.1 (drf_lt e2), hc v hb.2.2 (drf_lt e3)]
  exact ⟨h1, h2, h3, h4⟩
theorem ZO.zc {w S : Int → Int} {a n : Int} {z : Orc} (h : ZO 10 w a S n z) (hk : (z.2.2.2 = [] ∧ z.1 = 4) ∨ ∃ d, z.2.2.2 = [d] ∧ z.1 ≠ 4) : ZC w a S n (clz z) := by
  obtain ⟨h1, h2, h3, h4⟩ := h
  have h5 := h4 0 (by decide)
  rw [show a + 3 + ((0 : Nat) : Int) = a + 3 from by omega] at h5
  refine ⟨h1, h3, ?_⟩
  show match z.2.2.2.head? with | none => w (a + 3) = -1 ∧ z.1 = 4 | some d => XP 10 S n (w (a + 3)) d ∧ z.1 ≠ 4
  rcases hk with ⟨e, e4⟩ | ⟨d, e, e4⟩
  · rw [e] at h5 ⊢
    exact ⟨h5, e4⟩
  · rw [e] at h5 ⊢
    exact ⟨h5, e4⟩
theorem ZC.mv {w w' S S' : Int → Int} {a n : Int} {z : Clz} (h : ZC w a S n z) (hw : ∀ j, a ≤ j → j < a + 6 → w' j = w j) (hs : ∀ j, 0 ≤ j → j < n → S' j = S j) : ZC w' a S' n z := by
  obtain ⟨h1, h2, h3⟩ := h
  refine ⟨(hw a (by omega) (by omega)).trans h1, ?_, ?_⟩
  · rw [hw (a + 2) (by omega) (by omega)]
    cases e : z.2.1 with
    | none => rw [e] at h2; exact h2
    | some d => rw [e] at h2; exact ⟨h2.1.mv hs (Int.le_refl _), h2.2⟩
  · rw [hw (a + 3) (by omega) (by omega)]
    cases e : z.2.2 with
    | none => rw [e] at h3; exact h3
    | some d => rw [e] at h3; exact ⟨h3.1.mv hs (Int.le_refl _), h3.2⟩
section TM7
variable {c : Cm} {n : Nat}
theorem tm7_old {q : Nat} (h : q < n) : tm7 c n q = c q := by
  unfold tm7 tm4
  rw [up_cell (by omega), up_cell (by omega), up_cell (by omega), cpy_old (by omega), cpy_old (by omega), tm2_old h]
theorem tm7_u : tm7 c n n 2 = c 11 2 ∧ tm7 c n n 3 = c 11 3 ∧ tm7 c n n 4 = c 11 4 := by
  unfold tm7
  refine ⟨?_, ?_, up_same⟩
  · rw [up_ne (by decide), up_ne (by decide), up_same]
  · rw [up_ne (by decide), up_same]
theorem tm7_w (hn : 109 ≤ n) {j : Int} (h : 0 ≤ j ∧ j < c 11 2 * 6) : tm7 c n (n + 1) j = c 12 j := by
  unfold tm7 tm4
  rw [up_cell (by omega), up_cell (by omega), up_cell (by omega), cpy_cell (by omega), cpy_at (by omega), tm2_old (by omega)]
  exact congrArg (c 12) (by omega)
theorem tm7_v (hn : 109 ≤ n) {j : Int} (h : 0 ≤ j ∧ j < c 11 3) : tm7 c n (n + 2) j = c 13 j := by
  unfold tm7 tm4
  rw [up_cell (by omega), up_cell (by omega), up_cell (by omega), cpy_at (by omega), cpy_old (by omega), tm2_old (by omega)]
  exact congrArg (c 13) (by omega)
end TM7
/-- the text that was made smaller -/
theorem ctx_new {T : List Shp} {c c' : Cm} {F : List Orc} (h : TXT c 0 F) (hk : KLF F) (hc : ∀ q, 109 ≤ q → c' q = tm7 c (nT T) q) : CTX (T3 T (c 11 2) (c 11 3)) c' (((nT T : Nat) : Int) + 1) (F.map clz) := by
  obtain ⟨h1, h2, h3, h4, h5⟩ := h
  have n109 : 109 ≤ nT T := by unfold nT; omega
  refine ⟨nT T, nT T + 1, nT T + 2, _, _, _, _, _, _, d3a, d3b, d3c, by omega, ?_⟩
  rw [hc _ n109, hc _ (show 109 ≤ nT T + 1 by omega), hc _ (show 109 ≤ nT T + 2 by omega)]
  have tu := tm7_u (c := c) (n := nT T)
  rw [tu.1, tu.2.1, List.length_map]
  refine ⟨h1, by omega, by omega, fun i y hy => ?_⟩
  rw [List.getElem?_map] at hy
  cases e : F[i]? with
  | none => rw [e] at hy; exact absurd hy (by simp)
  | some z =>
    rw [e] at hy
    have hyz : clz z = y := Option.some.inj hy
    subst hyz
    have xl : i < F.length := by
      by_cases w : i < F.length
      · exact w
      · rw [List.getElem?_eq_none (by omega)] at e; exact absurd e (by simp)
    have zo : ZO 10 (c 12) (6 * (i : Int)) (c 13) (c 11 3) z := h4 i z e
    exact (zo.zc (hk i z e)).mv (fun j a b => tm7_w n109 (by omega)) (fun j a b => tm7_v n109 ⟨a, b⟩)
def LCA (q : Nat) (j : Int) : Prop := (q = 0 ∧ (j = 4 ∨ j = 14 ∨ j = 17)) ∨ q = 48 ∨ q = 11 ∨ q = 12 ∨ q = 13
theorem TXG.lca {q : Nat} {j : Int} (h : TXG q j) : LCA q j := by unfold TXG at h; unfold LCA; omega
theorem c_law {T : List Shp} {c : Cm} {B : Int → Int} {L : Int} {X : GX} {Y : GY} {Q : Res → Prop} (hX : GRr 0 B L X) (hY : GYr 0 B L X Y) (h4 : c 0 4 = L) (hB : c 10 = B) (hbl : BLt B L) (h15 : 0 ≤ c 1 5 ∧ c 1 5 < 6) (h76 : 0 ≤ c 76 4 ∧ c 76 4 < 1000000) (kF : ∀ f c', Y 0 0 (sk B L 0) 0 [] zo (.inl f) → 0 ≤ f → (∀ q j, ¬ LCA q j → ¬ (q = 76 ∧ j = 4) → c' q j = c q j) → c' 0 4 = 0 → c' 0 14 = f → c' 0 17 = -6 → c' 76 4 = c 76 4 + 1 → Q (some (some (vI (-6)), (SH T, c')))) (kT : ∀ F c' k n, Y 0 0 (sk B L 0) 0 [] zo (.inr F) → (∀ q j, q < nT T → ¬ LCA q j → ¬ (q = 5 ∧ j = c 1 5) → ¬ (q = 1 ∧ j = 5) → c' q j = c q j) → c' 0 4 = 0 → c' 0 14 = -1 → c' 0 17 = 0 → c' 1 5 = c 1 5 + 1 → c' 5 (c 1 5) = ((nT T : Nat) : Int) + 1 → (KLF F → CTX (T3 T k n) c' (((nT T : Nat) : Int) + 1) (F.map clz)) → Q (some (some (vI (c 1 5)), (SH (T3 T k n), c')))) : Q (ccal 125 [vR 1] (SH T, c)) := by
  have n109 : 109 ≤ nT T := by unfold nT; omega
  refine W_law2 ⟨fun _ => ?_, fun z => absurd h15.2 z⟩
  rw [h4]
  refine (c_faultIn (o := 0) hX hY (.inl rfl) (show up c 0 4 0 10 = B from (up_cell (by decide)).trans hB) hbl).mono fun r1 c2 hc => ?_
  obtain ⟨f2, hc⟩ := hc
  have k2 : ∀ q j, ¬ LCA q j → c2 q j = c q j := fun q j a => by
    rw [f2 q j fun z => a z.lca]
    by_cases e : q = 0
    · subst e; exact up_ne fun z => a (.inl ⟨rfl, .inl z⟩)
    · exact congrFun (up_cell e) j
  have k04 : c2 0 4 = 0 := by rw [f2 0 4 (by unfold TXG; omega), up_same]
  rcases hc with ⟨hr, hy⟩ | ⟨hr, F, hF, hy⟩
  · have e76 : c2 76 4 = c 76 4 := k2 76 4 (by unfold LCA; omega)
    refine ⟨fun z => by omega, fun _ => ⟨by omega, ?_⟩⟩
    refine kF r1 _ hy hr (fun q j a b => ?_) ?_ ?_ ?_ ?_
    · by_cases e : q = 76
      · subst e
        rw [up_ne (by omega), up_cell (by decide), up_cell (by decide)]
        exact k2 76 j a
      · rw [up_cell e]
        by_cases e0 : q = 0
        · subst e0
          rw [up_ne (fun z => a (by unfold LCA; omega)), up_ne (fun z => a (by unfold LCA; omega))]
          exact k2 0 j a
        · rw [up_cell e0, up_cell e0]
          exact k2 q j a
    · rw [up_cell (by decide), up_ne (by decide), up_ne (by decide)]; exact k04
    · rw [up_cell (by decide), up_ne (by decide), up_same]
    · rw [up_cell (by decide), up_same]
    · rw [up_same, e76]
  · have e15 : c2 1 5 = c 1 5 := k2 1 5 (by unfold LCA; omega)
    obtain ⟨t1, t2, t3, t4, t5⟩ := hF
    refine ⟨fun _ => ⟨by omega, ?_⟩, fun z => absurd hr z⟩
    rw [e15, hr]
    have o7 : ∀ q : Nat, q < nT T → tm7 (up c2 0 14 (-1)) (nT T) q = up c2 0 14 (-1) q := fun q a => tm7_old a
    refine kT F _ (c2 11 2) (c2 11 3) hy (fun q j a b d e => ?_) ?_ ?_ up_same ?_ ?_ fun hk => ?_
    · by_cases e0 : q = 0
      · subst e0
        rw [up_ne (fun z => b (by unfold LCA; omega)), up_cell (by decide), up_cell (by decide), o7 0 (by omega), up_ne (fun z => b (by unfold LCA; omega))]
        exact k2 0 j b
      · rw [up_cell e0]
        by_cases e1 : q = 1
        · subst e1
          rw [up_ne (by omega), up_cell (by decide), o7 1 (by omega), up_cell (by decide)]
          exact k2 1 j b
        · rw [up_cell e1]
          by_cases e5 : q = 5
          · subst e5
            rw [up_ne (by omega), o7 5 (by omega), up_cell (by decide)]
            exact k2 5 j b
          · rw [up_cell e5, o7 q a, up_cell e0]
            exact k2 q j b
    · rw [up_ne (by decide), up_cell (by decide), up_cell (by decide), o7 0 (by omega), up_ne (by decide)]; exact k04
    · rw [up_ne (by decide), up_cell (by decide), up_cell (by decide), o7 0 (by omega), up_same]
    · rw [up_cell (by decide), up_same]
    · rw [up_cell (by decide), up_cell (by decide), up_same]
    · have tx : TXT (up c2 0 14 (-1)) 0 F := by
        refine ⟨by rw [up_cell (by decide)]; exact t1, t2, by rw [up_cell (by decide)]; exact t3, fun i z hz => ?_, t5.cong (by rw [up_cell (by decide)]) (by rw [up_cell (by decide)]) (up_cell (by decide))⟩
        rw [up_cell (q := 12) (by decide), up_cell (q := 13) (by decide), up_cell (q := 11) (by decide)]
        exact t4 i z hz
      have := ctx_new (T := T) (c := up c2 0 14 (-1)) (c' := up (up (up (tm7 (up c2 0 14 (-1)) (nT T)) 5 (c 1 5) (((nT T : Nat) : Int) + 1)) 1 5 (c 1 5 + 1)) 0 17 0) tx hk (fun q a => by rw [up_cell (by omega), up_cell (by omega), up_cell (by omega)])
      rw [up_cell (q := 11) (by decide)] at this
      exact this
