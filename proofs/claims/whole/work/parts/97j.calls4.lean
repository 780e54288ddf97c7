/-! CALLS that change the world: claimant, claim -/
section CAL
variable {T : List Shp} {c : Cm} {n : Nat}
/-- a claimant more -/
def clR (R : Int → Int) (p b d q : Int) : Int → Int := rU (rU (rU (rU (rU R (348 + 4 * R 6) p) (348 + 4 * R 6 + 1) b) (348 + 4 * R 6 + 2) d) (348 + 4 * R 6 + 3) q) 6 (R 6 + 1)
theorem clR_o {R : Int → Int} {p b d q j : Int} (h0 : j ≠ 6) (h : ¬ (348 + 4 * R 6 ≤ j ∧ j < 352 + 4 * R 6)) : clR R p b d q j = R j := by
  unfold clR
  rw [rU_o h0, rU_o (by omega), rU_o (by omega), rU_o (by omega), rU_o (by omega)]
theorem clR_v {R : Int → Int} {p b d q : Int} (h : 0 ≤ R 6) : clR R p b d q (348 + 4 * R 6) = p ∧ clR R p b d q (348 + 4 * R 6 + 1) = b ∧ clR R p b d q (348 + 4 * R 6 + 2) = d ∧ clR R p b d q (348 + 4 * R 6 + 3) = q := by
  unfold clR
  refine ⟨?_, ?_, ?_, ?_⟩
  · rw [rU_o (by omega), rU_o (by omega), rU_o (by omega), rU_o (by omega), rU_s]
  · rw [rU_o (by omega), rU_o (by omega), rU_o (by omega), rU_s]
  · rw [rU_o (by omega), rU_o (by omega), rU_s]
  · rw [rU_o (by omega), rU_s]
theorem clR_rng {R : Int → Int} {p b d q : Int} (h : RNG R) (h0 : R 6 < 8) (hp : -1 ≤ p ∧ p < R 6) (hb : 0 ≤ b ∧ b < 100) (hd : b < d ∧ d ≤ 150) (hq : -1 ≤ q ∧ q ≤ 5) : RNG (clR R p b d q) := by
  have r := h.1
  have e6 : clR R p b d q 6 = R 6 + 1 := rU_s
  have v := clR_v (R := R) (p := p) (b := b) (d := d) (q := q) (by omega)
  have o : ∀ j, j ≠ 6 → j < 348 → clR R p b d q j = R j := fun j x y => clR_o x (by omega)
  refine h.keep2 (by rw [o 0 (by omega) (by omega)]; omega) (by rw [o 0 (by omega) (by omega)]; omega) ⟨o 1 (by omega) (by omega), by rw [o 2 (by omega) (by omega)]; omega⟩ (by rw [o 3 (by omega) (by omega)]; omega) ⟨o 4 (by omega) (by omega), o 5 (by omega) (by omega)⟩ (by omega) (by rw [o 7 (by omega) (by omega), o 8 (by omega) (by omega), o 9 (by omega) (by omega), o 10 (by omega) (by omega), o 11 (by omega) (by omega)]; omega) (fun j x => clR_o (by omega) (by omega)) (fun s x y => ?_) (fun s k x y x2 y2 => ?_) (fun s x y => ?_) (fun s x y => ?_)
  · rw [o 0 (by omega) (by omega)] at y
    rw [o _ (by omega) (by omega), o _ (by omega) (by omega)]
    exact h.2.2.2.1 s x y
  · rw [o 0 (by omega) (by omega)] at y
    rw [o _ (by omega) (by omega)]
    exact h.2.2.2.2.1 s k x y x2 y2
  · rw [o 3 (by omega) (by omega)] at y
    rw [o _ (by omega) (by omega), o _ (by omega) (by omega), o _ (by omega) (by omega)]
    exact h.2.2.2.2.2.1 s x y
  · by_cases e : s = R 6
    · subst e
      rw [v.1, v.2.1, v.2.2.1, v.2.2.2]
      omega
    · rw [clR_o (by omega) (by omega), clR_o (by omega) (by omega), clR_o (by omega) (by omega), clR_o (by omega) (by omega)]
      exact h.2.2.2.2.2.2.2 s x (by omega)
theorem j_claimant {p b d q : Int} (h : REL T c n) (hn : n < 512) : JN T c n 157 311 [vI p, vI b, vI d, vI q] := by
  have hs := h.cs
  have hR := h.rng
  have r := hR.1
  have e6 := hs.1.2.2.2.2.2.2.1
  have nr : ∀ (c1 : Cm) (Q' : Res → Prop), ¬ (-1 ≤ p ∧ (0 ≤ b ∧ b < 100) ∧ b < d ∧ d ≤ 150 ∧ -1 ≤ q ∧ q ≤ 5) → ((-2147483648 ≤ (c1 78 1) + 1 ∧ (c1 78 1) + 1 < 2147483648) ∧ Q' (some (some (vI (-1)), (SH T, (up (up (up c1 77 0 0) 77 1 (-1)) 78 1 ((c1 78 1) + 1)))))) → Q' (ccal 311 (vR 78 :: [vI p, vI b, vI d, vI q]) (SH T, c1)) := fun c1 Q' nb g => W_X12_claimant ⟨fun _ => g, fun _ => ⟨fun _ => ⟨fun _ => ⟨fun _ => g, fun _ => ⟨fun _ => by omega, fun _ => g⟩⟩, fun _ => g⟩, fun _ => g⟩⟩
  have go : ∀ (c1 : Cm) (Q' : Res → Prop), -1 ≤ p → (0 ≤ b ∧ b < 100) → b < d → d ≤ 150 → (-1 ≤ q ∧ q ≤ 5) → c1 79 = c 79 → p < c 79 6 → Q' (cev 311 3 70 [vR 78, vI p, vI b, vI d, vI q, vU, vU] [] (SH T, (up c1 77 0 0))) → Q' (ccal 311 (vR 78 :: [vI p, vI b, vI d, vI q]) (SH T, c1)) := fun c1 Q' a1 a2 a3 a4 a5 a6 a7 g => W_X12_claimant ⟨fun z => by omega, fun _ => ⟨fun _ => ⟨fun _ => ⟨fun z => by omega, fun _ => ⟨fun _ => ⟨fun _ => g, fun _ => ⟨by rw [a6]; omega, fun _ => g, fun z => by rw [a6] at z; omega⟩⟩, fun z => by omega⟩⟩, fun z => by omega⟩, fun z => by omega⟩⟩
  refine W_X11_claimant (Q := QI T _) ⟨fun a => jr1 h hn fun Q' g => nr _ Q' (by omega) g, fun a => ⟨fun a2 => ⟨fun a3 => ⟨fun a4 => ⟨fun a5 => jr1 h hn fun Q' g => nr _ Q' (by omega) g, fun a5 => ⟨fun a6 => ⟨fun a7 => ⟨by omega, QI.ret ⟨?_, go _ _ (by omega) a2 a4 (by omega) (by omega) rfl (by omega) (W_X12_claimant_70 (Q := QI T _) ⟨fun z => ?_, fun _ => ⟨?_, QI.ret ⟨?_, ?_, ?_⟩⟩⟩)⟩⟩, fun a7 => jr5 h hn fun Q' g => go _ Q' (by omega) a2 a4 (by omega) (by omega) rfl (by omega) (W_X12_claimant_70 ⟨fun _ => g, fun z => ?_⟩)⟩, fun a6 => jr2 h hn fun Q' g => W_X12_claimant ⟨fun z => by omega, fun _ => ⟨fun _ => ⟨fun _ => ⟨fun z => by omega, fun _ => ⟨fun _ => ⟨fun z => by omega, fun _ => ⟨?_, fun z => ?_, fun _ => g⟩⟩, fun z => by omega⟩⟩, fun z => by omega⟩, fun z => by omega⟩⟩⟩⟩, fun a4 => jr1 h hn fun Q' g => nr _ Q' (by omega) g⟩, fun a3 => jr1 h hn fun Q' g => nr _ Q' (by omega) g⟩, fun a2 => jr1 h hn fun Q' g => nr _ Q' (by omega) g⟩⟩
  · repeat' (first | exact SC.rfl | refine SC.wr ?_ ?_ | decide)
  · replace z : c 79 6 = 8 := z
    omega
  · have e : ∀ (M : Cm) (S : Int), M 79 6 = c 79 6 → S = c 79 6 → up (up (up (up M 79 (348 + 4 * S) p) 79 (348 + 4 * S + 1) b) 79 (348 + 4 * S + 2) d) 79 (348 + 4 * S + 3) q 79 6 = c 79 6 := fun M S a b => by
      rw [up_ne (by omega), up_ne (by omega), up_ne (by omega), up_ne (by omega), a]
    have e9 := e (up (up (up (up (up (up c 9 (c 1 13 * 4) p) 9 (c 1 13 * 4 + 1) b) 9 (c 1 13 * 4 + 2) d) 9 (c 1 13 * 4 + 3) q) 1 13 (c 1 13 + 1)) 0 17 0) (c 79 6) rfl rfl
    refine ⟨?_, ?_, ?_, ?_, ?_, ?_, ?_, ?_, ?_, ?_, ?_⟩
    · show -2147483648 ≤ 4 * c 79 6 ∧ 4 * c 79 6 < 2147483648
      omega
    · show -2147483648 ≤ 348 + 4 * c 79 6 ∧ 348 + 4 * c 79 6 < 2147483648
      omega
    · show 0 ≤ 348 + 4 * c 79 6 ∧ 348 + 4 * c 79 6 < 5780
      omega
    · show -2147483648 ≤ 348 + 4 * c 79 6 + 1 ∧ 348 + 4 * c 79 6 + 1 < 2147483648
      omega
    · show 0 ≤ 348 + 4 * c 79 6 + 1 ∧ 348 + 4 * c 79 6 + 1 < 5780
      omega
    · show -2147483648 ≤ 348 + 4 * c 79 6 + 2 ∧ 348 + 4 * c 79 6 + 2 < 2147483648
      omega
    · show 0 ≤ 348 + 4 * c 79 6 + 2 ∧ 348 + 4 * c 79 6 + 2 < 5780
      omega
    · show -2147483648 ≤ 348 + 4 * c 79 6 + 3 ∧ 348 + 4 * c 79 6 + 3 < 2147483648
      omega
    · show 0 ≤ 348 + 4 * c 79 6 + 3 ∧ 348 + 4 * c 79 6 + 3 < 5780
      omega
    · have k : ∀ v : Int, v = c 79 6 → -2147483648 ≤ v + 1 ∧ v + 1 < 2147483648 := fun v q => by omega
      exact k _ e9
    · show 0 ≤ c 79 6
      omega
  · show c 79 6 = c 1 13 + 1 - 1
    omega
  · repeat' (first | exact SC.rfl | refine SC.wr ?_ ?_ | decide)
  · have e0' : c 1 13 * 4 = 4 * c 79 6 := by omega
    have h36 : ∀ a v, a ≠ 3 → ∀ R : Int → Int, R 3 ≤ 6 → rU R a v 3 ≤ 6 := fun a v ha R hr => by rw [rU_o (Ne.symm ha)]; exact hr
    refine h.mut0 (R' := clR (c 79) p b d q) ?_ (clR_rng hR (by omega) (by omega) (by omega) (by omega) (by omega)) ?_ (clR_o (by decide) (by omega)) (fun j a => clR_o (by omega) (by omega)) ?_ rfl rfl
    · have k0 : c 79 3 ≤ 6 := by omega
      have h1 := hs.p9e (i := c 1 13 * 4) (v := p) (a := 348 + 4 * c 79 6) k0 (by omega) (by omega)
      have k1 := h36 (348 + 4 * c 79 6) p (by omega) _ k0
      have h2 := h1.p9e (i := c 1 13 * 4 + 1) (v := b) (a := 348 + 4 * c 79 6 + 1) k1 (by omega) (by omega)
      have k2 := h36 (348 + 4 * c 79 6 + 1) b (by omega) _ k1
      have h3 := h2.p9e (i := c 1 13 * 4 + 2) (v := d) (a := 348 + 4 * c 79 6 + 2) k2 (by omega) (by omega)
      have k3 := h36 (348 + 4 * c 79 6 + 2) d (by omega) _ k2
      have h4 := (h3.p9e (i := c 1 13 * 4 + 3) (v := q) (a := 348 + 4 * c 79 6 + 3) k3 (by omega) (by omega)).f13 (v := c 1 13 + 1)
      exact (h4.cells rfl rfl rfl rfl rfl rfl rfl rfl).nn fun j _ => by
        unfold clR
        rw [e6]
    · funext j
      have e1 : ∀ (M : Cm) (S : Int), M 79 6 = c 79 6 → S = c 79 6 → up (up (up (up M 79 (348 + 4 * S) p) 79 (348 + 4 * S + 1) b) 79 (348 + 4 * S + 2) d) 79 (348 + 4 * S + 3) q 79 6 = c 79 6 := fun M S a b => by
        rw [up_ne (by omega), up_ne (by omega), up_ne (by omega), up_ne (by omega), a]
      have e9 := e1 (up (up (up (up (up (up c 9 (c 1 13 * 4) p) 9 (c 1 13 * 4 + 1) b) 9 (c 1 13 * 4 + 2) d) 9 (c 1 13 * 4 + 3) q) 1 13 (c 1 13 + 1)) 0 17 0) (c 79 6) rfl rfl
      show (if j = 6 then _ + 1 else _) = _
      have e3 : ∀ a b : Int, a = c 79 6 → (if j = 6 then a + 1 else b) = (if j = 6 then c 79 6 + 1 else b) := fun a b q => by rw [q]
      exact e3 _ _ e9
    · repeat' (first | exact Fr.rfl | refine Fr.wr ?_ ?_ | exact (show mt0 _ _ = true from rfl))
  · replace z : ¬ c 79 6 = 8 := z
    omega
  · show -9223372036854775808 ≤ c 79 6 - 1 ∧ c 79 6 - 1 < 9223372036854775808
    omega
  · replace z : 0 ≤ p ∧ p < c 79 6 := z
    omega
theorem rc1 {Q : Res → Prop} {c1 : Cm} {x w v : Int} (hb : ¬ ((w = 0 ∧ 0 ≤ v ∧ v ≤ 150) ∨ (w = 1 ∧ -1 ≤ v ∧ v ≤ 5))) (g : (-2147483648 ≤ (c1 78 1) + 1 ∧ (c1 78 1) + 1 < 2147483648) ∧ Q (some (some (vI (-1)), (SH T, (up (up (up c1 77 0 0) 77 1 (-1)) 78 1 ((c1 78 1) + 1)))))) : Q (ccal 313 (vR 78 :: [vI x, vI w, vI v]) (SH T, c1)) := by
  have g' : ∀ y0 : Int, y0 = 0 → Q (cev 313 3 45 [vR 78, vI x, vI w, vI v, vU] [vI y0] (SH T, (up c1 77 0 0))) := fun y0 e => W_X12_claim_45 ⟨fun _ => g, fun z => absurd e z⟩
  exact W_X12_claim ⟨fun e => g' _ (b01_f (by omega)), fun e => ⟨fun e1 => ⟨fun z => by omega, fun _ => g' _ rfl⟩, fun _ => g' _ rfl⟩⟩
theorem rc2 {Q : Res → Prop} {c1 : Cm} {x w v : Int} (hb : (w = 0 ∧ 0 ≤ v ∧ v ≤ 150) ∨ (w = 1 ∧ -1 ≤ v ∧ v ≤ 5)) (k : Q (cev 313 3 45 [vR 78, vI x, vI w, vI v, vU] [vI 1] (SH T, (up c1 77 0 0)))) : Q (ccal 313 (vR 78 :: [vI x, vI w, vI v]) (SH T, c1)) :=
  W_X12_claim ⟨fun e => by rw [b01_t (by omega)]; exact k, fun e => ⟨fun e1 => ⟨fun _ => k, fun z => by omega⟩, fun z => by omega⟩⟩
theorem j_claim {x w v : Int} (h : REL T c n) (hn : n < 512) : JN T c n 158 313 [vI x, vI w, vI v] := by
  have hs := h.cs
  have hR := h.rng
  have r := hR.1
  have e6 := hs.1.2.2.2.2.2.2.1
  obtain ⟨-, -, -, -, -, -, b9⟩ := hs
  have hs := h.cs
  have fin : ((w = 0 ∧ 0 ≤ v ∧ v ≤ 150) ∨ (w = 1 ∧ -1 ≤ v ∧ v ≤ 5)) → (0 ≤ x ∧ x < c 79 6) → (w = 0 → c 79 (348 + 4 * x + 1) < v) → QI T (JP T c n 313 [vI x, vI w, vI v]) (cev 158 3 93 [vR 1, vU, vI w, vI v, vI (x * 4), vU] [] (SH T, c)) := by
    intro hw hx hv
    have last : QI T (fun r' c2 => r' = c 9 (x * 4 + 2 + w) ∧ SC c c2 ∧ REL T c2 (n + 1)) (cev 313 3 95 [vR 78, vI x, vI w, vI v, vU] [] (SH T, (up (up (up c 9 (x * 4 + 2 + w) v) 0 17 0) 77 0 0))) := by
      refine W_X12_claim_95 (Q := QI T _) ⟨by omega, QI.ret ⟨?_, ?_, ?_⟩⟩
      · show c 79 (348 + 4 * x + 2 + w) = c 9 (x * 4 + 2 + w)
        rw [b9 _ (by omega) (by omega)]
        exact congrArg (c 79) (by omega)
      · repeat' (first | exact SC.rfl | refine SC.wr ?_ ?_ | decide)
      · have hp := hs.p9e (i := x * 4 + 2 + w) (v := v) (a := 348 + 4 * x + 2 + w) (by omega) (by omega) (by omega)
        have g := hR.2.2.2.2.2.2.2
        refine h.mut0 (R' := rU (c 79) (348 + 4 * x + 2 + w) v) (hp.cells rfl rfl rfl rfl rfl rfl rfl rfl) (hR.one (.inr (by omega)) (fun p _ _ => by omega) (fun p k _ _ _ _ _ => by omega) (fun _ _ => by omega) (fun q a b => ⟨by omega, by omega, fun z => ?_, fun z => by omega⟩)) (funext fun j => rfl) (rU_o (by omega)) (fun j a => ?_) ?_ rfl rfl
        · have : q = x := by omega
          subst this
          have := hv (by omega)
          omega
        · exact rU_o (by omega)
        · repeat' (first | exact Fr.rfl | refine Fr.wr ?_ ?_ | exact (show mt0 _ _ = true from rfl))
    refine W_X11_claim_93 (Q := QI T _) ⟨by omega, QI.ret ⟨(SC.rfl.wr (by decide)).wr (by decide), rc2 hw (W_X12_claim_45 (Q := QI T _) ⟨fun z => absurd z (by decide), fun _ => ⟨?_, fun _ => ⟨fun e => ⟨by omega, fun _ => last, fun z => ?_⟩, fun _ => last⟩, fun z => ?_⟩⟩)⟩⟩
    · show -9223372036854775808 ≤ c 79 6 - 1 ∧ c 79 6 - 1 < 9223372036854775808
      omega
    · exact absurd (hv e) z
    · exact absurd hx z
  have l44 : ((w = 0 ∧ 0 ≤ v ∧ v ≤ 150) ∨ (w = 1 ∧ -1 ≤ v ∧ v ≤ 5)) → QI T (JP T c n 313 [vI x, vI w, vI v]) (cev 158 3 44 [vR 1, vI x, vI w, vI v, vU, vU] [] (SH T, c)) := by
    intro hw
    have bb : 0 ≤ x ∧ x < c 79 6 → c 9 (x * 4 + 1) = c 79 (348 + 4 * x + 1) := fun a => by
      rw [b9 _ (by omega) (by omega)]
      exact congrArg (c 79) (by omega)
    refine W_X11_claim_44 (Q := QI T _) ⟨fun a => ⟨by omega, fun e => ⟨by omega, fun f => fin hw (by omega) (fun _ => by rw [← bb (by omega)]; exact f), fun f => jr1 h hn fun Q' g => rc2 hw (W_X12_claim_45 ⟨fun z => absurd z (by decide), fun _ => ⟨?_, fun _ => ⟨fun _ => ⟨by omega, fun z => ?_, fun _ => g⟩, fun z => absurd e z⟩, fun z => ?_⟩⟩)⟩, fun e => fin hw (by omega) (fun z => absurd z e)⟩, fun a => jr2 h hn fun Q' g => rc2 hw (W_X12_claim_45 ⟨fun z => absurd z (by decide), fun _ => ⟨?_, fun z => ?_, fun _ => g⟩⟩)⟩
    · show -9223372036854775808 ≤ c 79 6 - 1 ∧ c 79 6 - 1 < 9223372036854775808
      omega
    · replace z : c 79 (348 + 4 * x + 1) < v := z
      rw [bb (by omega)] at f
      exact absurd z f
    · replace z : ¬ (0 ≤ x ∧ x < c 79 6) := z
      omega
    · show -9223372036854775808 ≤ c 79 6 - 1 ∧ c 79 6 - 1 < 9223372036854775808
      omega
    · replace z : 0 ≤ x ∧ x < c 79 6 := z
      omega
  refine W_X11_claim (Q := QI T _) ⟨fun a => ⟨fun e => ⟨fun b => l44 (by omega), fun b => jr1 h hn fun Q' g => rc1 (by omega) g⟩, fun e => ⟨fun b => l44 (by omega), fun b => jr1 h hn fun Q' g => rc1 (by omega) g⟩⟩, fun a => jr1 h hn fun Q' g => rc1 (by omega) g⟩
end CAL
