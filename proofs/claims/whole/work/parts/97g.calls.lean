/-! CALLS that change the world, one by one -/
section CAL
variable {T : List Shp} {c : Cm} {n : Nat}
theorem j_first {x t : Int} (h : REL T c n) (hn : n < 512) : JN T c n 114 204 [vI x, vI t] := by
  have hs := h.cs
  have hR := h.rng
  have r := hR.1
  refine W_X11_first (Q := QI T _) ⟨fun a => ⟨fun b => ⟨by omega, QI.ret ⟨((SC.rfl.wr (by decide)).wr (by decide)).wr (by decide), W_X12_first (Q := QI T _) ⟨fun _ => ⟨fun _ => ⟨by omega, QI.ret ⟨?_, ?_, ?_⟩⟩, fun z => absurd b z⟩, fun z => absurd a z⟩⟩⟩, fun b => jr1 h hn fun Q' k => W_X12_first ⟨fun _ => ⟨fun z => absurd z b, fun _ => k⟩, fun z => absurd a z⟩⟩, fun a => jr1 h hn fun Q' k => W_X12_first ⟨fun z => absurd z a, fun _ => k⟩⟩
  · rw [up_ne (by omega)]
    exact (hs.2.2.2.2.1 x a.1 (by omega)).symm
  · repeat' (first | exact SC.rfl | refine SC.wr ?_ ?_ | decide)
  · refine h.mut0 (R' := rU (rU (c 79) (12 + x) t) 4 0) (((hs.p7 (i := x) (v := t) (by omega)).f8 (v := 0)).cells rfl rfl rfl rfl rfl rfl rfl rfl) ((hR.ton (.inl (by omega)) (by omega)).yrs ?_) ?_ ?_ (fun j a => ?_) ?_ rfl rfl
    · rw [rU_o (by omega)]; omega
    · rw [rU_sw (by omega)]
      exact funext fun j => rfl
    · rw [rU_o (by decide), rU_o (by omega)]
    · rw [rU_o (by omega), rU_o (by omega)]
    · repeat' (first | exact Fr.rfl | refine Fr.wr ?_ ?_ | exact (show mt0 _ _ = true from rfl))
theorem j_err {x k v : Int} (h : REL T c n) (hn : n < 512) : JN T c n 116 206 [vI x, vI k, vI v] := by
  have hs := h.cs
  have hR := h.rng
  have r := hR.1
  have e0 := hs.1.1
  refine W_X11_err (Q := QI T _) ⟨fun a => ⟨fun b => ⟨fun d => ⟨by omega, QI.ret ⟨((SC.rfl.wr (by decide)).wr (by decide)), W_X12_err (Q := QI T _) ⟨fun _ => ⟨fun _ => ⟨?_, fun _ => ⟨by omega, QI.ret ⟨?_, ?_, ?_⟩⟩, fun z => ?_⟩, fun z => by omega⟩, fun z => by omega⟩⟩⟩, fun d => jr2 h hn fun Q' g => W_X12_err ⟨fun _ => ⟨fun _ => ⟨?_, fun z => ?_, fun _ => g⟩, fun z => by omega⟩, fun z => by omega⟩⟩, fun b => jr1 h hn fun Q' g => W_X12_err ⟨fun _ => ⟨fun z => by omega, fun _ => g⟩, fun z => by omega⟩⟩, fun a => jr1 h hn fun Q' g => W_X12_err ⟨fun z => by omega, fun _ => g⟩⟩
  · show -9223372036854775808 ≤ c 79 0 - 1 ∧ c 79 0 - 1 < 9223372036854775808
    omega
  · show c 79 (233 + 5 * x + 2 + k) = c 2 (x * 5 + 2 + k)
    rw [hs.2.1 _ (by omega) (by omega)]
    exact congrArg (c 79) (by omega)
  · repeat' (first | exact SC.rfl | refine SC.wr ?_ ?_ | decide)
  · have hp := hs.p2 (i := x * 5 + 2 + k) (v := v) (by omega)
    rw [show 233 + (x * 5 + 2 + k) = 233 + 5 * x + 2 + k from by omega] at hp
    refine h.mut0 (R' := rU (c 79) (233 + 5 * x + 2 + k) v) (hp.cells rfl rfl rfl rfl rfl rfl rfl rfl) (hR.one (.inl (by omega)) (fun p _ _ => by omega) (fun p k _ _ _ _ _ => by omega) (fun _ _ => by omega) (fun q _ _ => by omega)) (funext fun j => rfl) (rU_o (by omega)) (fun j a => rU_o (by omega)) ?_ rfl rfl
    repeat' (first | exact Fr.rfl | refine Fr.wr ?_ ?_ | exact (show mt0 _ _ = true from rfl))
  · replace z : ¬ (0 ≤ x ∧ x < c 79 0) := z
    omega
  · show -9223372036854775808 ≤ c 79 0 - 1 ∧ c 79 0 - 1 < 9223372036854775808
    omega
  · replace z : 0 ≤ x ∧ x < c 79 0 := z
    omega
theorem j_touch {x y v : Int} (h : REL T c n) (hn : n < 512) : JN T c n 143 287 [vI x, vI y, vI v] := by
  have hs := h.cs
  have hR := h.rng
  have r := hR.1
  have e11 := hs.1.2.2.2.2.2.1
  refine W_X11_touch (Q := QI T _) ⟨fun a => ⟨fun b => ⟨fun d => ⟨by omega, QI.ret ⟨((SC.rfl.wr (by decide)).wr (by decide)), W_X12_touch (Q := QI T _) ⟨fun _ => ⟨fun _ => ⟨?_, fun _ => ⟨by omega, QI.ret ⟨?_, ?_, ?_⟩⟩, fun z => ?_⟩, fun z => by omega⟩, fun z => by omega⟩⟩⟩, fun d => jr2 h hn fun Q' g => W_X12_touch ⟨fun _ => ⟨fun _ => ⟨?_, fun z => ?_, fun _ => g⟩, fun z => by omega⟩, fun z => by omega⟩⟩, fun b => jr1 h hn fun Q' g => W_X12_touch ⟨fun _ => ⟨fun z => by omega, fun _ => g⟩, fun z => by omega⟩⟩, fun a => jr1 h hn fun Q' g => W_X12_touch ⟨fun z => by omega, fun _ => g⟩⟩
  · show -9223372036854775808 ≤ c 79 5 - 1 ∧ c 79 5 - 1 < 9223372036854775808
    omega
  · show c 79 (276 + 12 * x + y) = c 8 (x * 12 + y)
    rw [hs.2.2.2.2.2.1 _ (by omega) (by omega)]
    exact congrArg (c 79) (by omega)
  · repeat' (first | exact SC.rfl | refine SC.wr ?_ ?_ | decide)
  · have hp := hs.p8 (i := x * 12 + y) (v := v) (by omega) (by omega)
    rw [show 276 + (x * 12 + y) = 276 + 12 * x + y from by omega] at hp
    refine h.mut0 (R' := rU (c 79) (276 + 12 * x + y) v) (hp.cells rfl rfl rfl rfl rfl rfl rfl rfl) (hR.ton (.inr (by omega)) (by omega)) (funext fun j => rfl) (rU_o (by omega)) (fun j a => rU_o (by omega)) ?_ rfl rfl
    repeat' (first | exact Fr.rfl | refine Fr.wr ?_ ?_ | exact (show mt0 _ _ = true from rfl))
  · replace z : ¬ (0 ≤ x ∧ x < c 79 5) := z
    omega
  · show -9223372036854775808 ≤ c 79 5 - 1 ∧ c 79 5 - 1 < 9223372036854775808
    omega
  · replace z : 0 ≤ x ∧ x < c 79 5 := z
    omega
theorem j_forge {x y v : Int} (h : REL T c n) (hn : n < 512) : JN T c n 152 304 [vI x, vI y, vI v] := by
  have hs := h.cs
  have hR := h.rng
  have r := hR.1
  have e8 := hs.1.2.2.2.2.1
  refine W_X11_forge (Q := QI T _) ⟨fun a => ⟨fun b => ⟨fun d => jr2 h hn fun Q' g => W_X12_forge ⟨fun _ => ⟨fun _ => ⟨fun z => by omega, fun _ => g⟩, fun z => by omega⟩, fun z => by omega⟩, fun d => ⟨by omega, fun f => ⟨by omega, QI.ret ⟨((SC.rfl.wr (by decide)).wr (by decide)), W_X12_forge (Q := QI T _) ⟨fun _ => ⟨fun _ => ⟨fun _ => ⟨by omega, QI.ret ⟨?_, ?_, ?_⟩⟩, fun z => ?_⟩, fun z => by omega⟩, fun z => by omega⟩⟩⟩, fun f => jr2 h hn fun Q' g => W_X12_forge ⟨fun _ => ⟨fun _ => ⟨fun z => ?_, fun _ => g⟩, fun z => by omega⟩, fun z => by omega⟩⟩⟩, fun b => jr1 h hn fun Q' g => W_X12_forge ⟨fun _ => ⟨fun z => by omega, fun _ => g⟩, fun z => by omega⟩⟩, fun a => jr1 h hn fun Q' g => W_X12_forge ⟨fun z => by omega, fun _ => g⟩⟩
  · show c 79 (12 + 12 * x + y) = c 7 (x * 12 + y)
    rw [hs.2.2.2.2.1 _ (by omega) (by omega)]
    exact congrArg (c 79) (by omega)
  · repeat' (first | exact SC.rfl | refine SC.wr ?_ ?_ | decide)
  · have hp := hs.p7 (i := x * 12 + y) (v := v) (by omega)
    rw [show 12 + (x * 12 + y) = 12 + 12 * x + y from by omega] at hp
    refine h.mut0 (R' := rU (c 79) (12 + 12 * x + y) v) (hp.cells rfl rfl rfl rfl rfl rfl rfl rfl) (hR.ton (.inl (by omega)) (by omega)) (funext fun j => rfl) (rU_o (by omega)) (fun j a => rU_o (by omega)) ?_ rfl rfl
    repeat' (first | exact Fr.rfl | refine Fr.wr ?_ ?_ | exact (show mt0 _ _ = true from rfl))
  · replace z : ¬ (1 ≤ x ∧ x ≤ c 79 4) := z
    omega
  · replace z : 1 ≤ x ∧ x ≤ c 79 4 := z
    omega
theorem j_burn (h : REL T c n) : JN T c n 144 288 [] := by
  have hs := h.cs
  refine W_X11_burn (Q := QI T _) (QI.ret ⟨SC.rfl.wr (by decide), W_X12_burn (Q := QI T _) (QI.ret ⟨?_, ?_, ?_⟩)⟩)
  · exact hs.1.2.2.2.2.2.1.symm
  · repeat' (first | exact SC.rfl | refine SC.wr ?_ ?_ | decide)
  · refine h.mut1 (R' := rU (c 79) 5 0) ((hs.f11 (v := 0)).cells rfl rfl rfl rfl rfl rfl rfl rfl) (h.rng.cps (by omega)) (funext fun j => rfl) (rU_o (by omega)) (fun j a => rU_o (by omega)) ?_ (h.2.2.2.2.1.cells rfl rfl rfl rfl).up1
    repeat' (first | exact Fr.rfl | refine Fr.wr ?_ ?_ | exact (.inl (show mt0 _ _ = true from rfl)))
theorem j_scrape (h : REL T c n) (hn : n < 512) : JN T c n 133 268 [] := by
  have hs := h.cs
  have hR := h.rng
  have r := hR.1
  have e8 := hs.1.2.2.2.2.1
  refine W_X11_scrape (Q := QI T _) ⟨fun a => jr3 h hn fun Q' g => W_X12_scrape ⟨fun _ => g, fun z => ?_⟩, fun a => ⟨by omega, QI.ret ⟨((SC.rfl.wr (by decide)).wr (by decide)), W_X12_scrape (Q := QI T _) ⟨fun z => ?_, fun z => ⟨?_, QI.ret ⟨?_, ?_, ?_⟩⟩⟩⟩⟩⟩
  · replace z : ¬ c 79 4 = 0 := z
    omega
  · replace z : c 79 4 = 0 := z
    omega
  · have g := hR.2.2.1 (c 79 4) (by omega) (by omega)
    have e : up (up (up c 1 8 (c 1 8 - 1)) 0 17 0) 79 4 (c 79 4 - 1) 79 (216 + (c 79 4 - 1) + 1) = c 79 (216 + c 79 4) := by
      rw [up_ne (by omega)]
      exact congrArg (c 79) (by omega)
    show (-2147483648 ≤ c 79 4 - 1 ∧ c 79 4 - 1 < 2147483648) ∧ (-2147483648 ≤ 216 + (c 79 4 - 1) ∧ 216 + (c 79 4 - 1) < 2147483648) ∧ (-2147483648 ≤ 216 + (c 79 4 - 1) + 1 ∧ 216 + (c 79 4 - 1) + 1 < 2147483648) ∧ (0 ≤ 216 + (c 79 4 - 1) + 1 ∧ 216 + (c 79 4 - 1) + 1 < 5780) ∧ 0 ≤ up (up (up c 1 8 (c 1 8 - 1)) 0 17 0) 79 4 (c 79 4 - 1) 79 (216 + (c 79 4 - 1) + 1)
    rw [e]
    omega
  · have e : up (up (up c 1 8 (c 1 8 - 1)) 0 17 0) 79 4 (c 79 4 - 1) 79 (216 + (c 79 4 - 1) + 1) = c 79 (216 + c 79 4) := by
      rw [up_ne (by omega)]
      exact congrArg (c 79) (by omega)
    refine Eq.trans e ?_
    rw [hs.2.2.2.1 (c 1 8 - 1 + 1) (by omega) (by omega)]
    exact congrArg (c 79) (by omega)
  · repeat' (first | exact SC.rfl | refine SC.wr ?_ ?_ | decide)
  · refine h.mut0 (R' := rU (c 79) 4 (c 79 4 - 1)) ?_ (hR.yrs (by omega)) (funext fun j => rfl) (rU_o (by omega)) (fun j a => rU_o (by omega)) ?_ rfl rfl
    · have hp := hs.f8 (v := c 79 4 - 1)
      rw [← e8] at hp ⊢
      exact hp.cells rfl rfl rfl rfl rfl rfl rfl rfl
    · repeat' (first | exact Fr.rfl | refine Fr.wr ?_ ?_ | exact (show mt0 _ _ = true from rfl))
theorem j_force {x : Int} (h : REL T c n) (hn : n < 512) : JN T c n 129 245 [vI x] := by
  have hs := h.cs
  have hR := h.rng
  have r := hR.1
  have e5 := hs.1.2.2.1
  have e7 := hs.1.2.2.2.1
  have ok : (x = -1 ∨ (0 ≤ x ∧ x < c 79 1)) → QI T (JP T c n 245 [vI x]) (cev 129 3 26 [vR 1, vI x, vU] [] (SH T, c)) := by
    intro hx
    have fin : QI T (fun r' c2 => r' = c 1 7 ∧ SC c c2 ∧ REL T c2 (n + 1)) (some (some (vI ((up (up c 1 7 x) 0 17 0) 79 2)), (SH T, (up (up (up (up (up c 1 7 x) 0 17 0) 77 0 0) 79 2 x) 77 1 0)))) := by
      refine QI.ret ⟨e7.symm, ?_, ?_⟩
      · repeat' (first | exact SC.rfl | refine SC.wr ?_ ?_ | decide)
      · refine h.mut0 (R' := rU (c 79) 2 x) ((hs.f7 (v := x)).cells rfl rfl rfl rfl rfl rfl rfl rfl) (hR.scl (.inl rfl) (fun _ => by omega) (by omega) (by omega) (by omega) (by omega) (by omega)) (funext fun j => rfl) (rU_o (by omega)) (fun j a => rU_o (by omega)) ?_ rfl rfl
        repeat' (first | exact Fr.rfl | refine Fr.wr ?_ ?_ | exact (show mt0 _ _ = true from rfl))
    refine W_X11_force_26 (Q := QI T _) (QI.ret ⟨(SC.rfl.wr (by decide)).wr (by decide), W_X12_force (Q := QI T _) ⟨fun _ => fin, fun z => ⟨?_, fun _ => fin, fun w => ?_⟩⟩⟩)
    · show -9223372036854775808 ≤ c 79 1 - 1 ∧ c 79 1 - 1 < 9223372036854775808
      omega
    · replace w : ¬ (0 ≤ x ∧ x ≤ c 79 1 - 1) := w
      omega
  refine W_X11_force (Q := QI T _) ⟨fun a => ok (.inl a), fun a => ⟨fun b => ok (.inr (by omega)), fun b => jr2 h hn fun Q' g => W_X12_force ⟨fun z => absurd z a, fun _ => ⟨?_, fun z => ?_, fun _ => g⟩⟩⟩⟩
  · show -9223372036854775808 ≤ c 79 1 - 1 ∧ c 79 1 - 1 < 9223372036854775808
    omega
  · replace z : 0 ≤ x ∧ x ≤ c 79 1 - 1 := z
    omega
end CAL
