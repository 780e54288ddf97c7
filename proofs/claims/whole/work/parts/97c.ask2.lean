/-! MORE PLAIN QUESTIONS: what is told as it lies -/
theorem REL.w0 {T : List Shp} {c : Cm} {n : Nat} (h : REL T c n) : REL T (up c 77 0 0) (n + 1) := (h.off (L := []) (G := [0]) (Off.rfl.wr rfl) rfl rfl).up1
theorem jans {T : List Shp} {c : Cm} {n : Nat} {v v' : Int} (h : REL T c n) (e : v' = v) : QI T (fun r' c2 => r' = v ∧ SC c c2 ∧ REL T c2 (n + 1)) (some (some (vI v'), (SH T, up c 77 0 0))) := QI.ret ⟨e, SC.rfl.wr (by decide), h.w0⟩
theorem REL.cs {T : List Shp} {c : Cm} {n : Nat} (h : REL T c n) : CS c (c 79) := h.1.1
theorem REL.rng {T : List Shp} {c : Cm} {n : Nat} (h : REL T c n) : RNG (c 79) := h.1.2.1
theorem j_flakes {T : List Shp} {c : Cm} {n : Nat} (h : REL T c n) : JN T c n 124 213 [] := W_X11_flakes (Q := QI T _) (QI.ret ⟨SC.rfl, W_X12_flakes (Q := QI T _) (jans h h.2.2.2.1.1.2.1.symm)⟩)
theorem j_fault {T : List Shp} {c : Cm} {n : Nat} (h : REL T c n) : JN T c n 127 225 [] := W_X11_fault (Q := QI T _) (QI.ret ⟨SC.rfl, W_X12_fault (Q := QI T _) (jans h h.2.2.2.1.1.1.symm)⟩)
theorem j_stopped {T : List Shp} {c : Cm} {n : Nat} (h : REL T c n) : JN T c n 128 335 [] := W_X11_stopped (Q := QI T _) (QI.ret ⟨SC.rfl, W_X12_stopped (Q := QI T _) (jans h h.2.2.2.1.1.2.2.symm)⟩)
theorem j_status {T : List Shp} {c : Cm} {n : Nat} (h : REL T c n) : JN T c n 170 340 [] := W_X11_status (Q := QI T _) (QI.ret ⟨SC.rfl, W_X12_status (Q := QI T _) (jans h h.2.2.2.2.1.1.symm)⟩)
theorem j_of {T : List Shp} {c : Cm} {n : Nat} {x w : Int} (h : REL T c n) : JN T c n 117 207 [vI x, vI w] := by
  have hs := h.cs
  have r := h.rng.1
  have e0 := hs.1.1
  refine W_X11_of (Q := QI T _) ⟨fun a => ⟨fun b => ⟨by omega, QI.ret ⟨SC.rfl, W_X12_of (Q := QI T _) ⟨by omega, fun a' => ⟨fun b' => ⟨by omega, jans h ?_⟩, fun b' => by omega⟩, fun a' => by omega⟩⟩⟩, fun b => QI.ret ⟨SC.rfl, W_X12_of (Q := QI T _) ⟨by omega, fun a' => ⟨fun b' => by omega, fun b' => jans h rfl⟩, fun a' => by omega⟩⟩⟩, fun a => QI.ret ⟨SC.rfl, W_X12_of (Q := QI T _) ⟨by omega, fun a' => by omega, fun a' => jans h rfl⟩⟩⟩
  rw [hs.2.1 (x * 5 + w) (by omega) (by omega)]
  exact congrArg (c 79) (by omega)
theorem j_drawn {T : List Shp} {c : Cm} {n : Nat} {x : Int} (h : REL T c n) (hx : -2147483648 ≤ x ∧ x < 2147483648) : JN T c n 166 338 [vI x] := by
  obtain ⟨d1, d2, d3⟩ := h.2.2.2.2.2.1
  refine W_X11_drawn (Q := QI T _) ⟨fun a => QI.ret ⟨SC.rfl, W_X12_drawn (Q := QI T _) ⟨fun _ => jans h rfl, fun z => by omega⟩⟩, fun a => ?_⟩
  obtain ⟨e3, b3, e75, e74⟩ := d3 (by omega)
  refine ⟨fun b => ⟨b, QI.ret ⟨SC.rfl, W_X12_drawn (Q := QI T _) ⟨fun z => by omega, fun _ => ⟨fun _ => ⟨by omega, jans h (e75 x b.1 b.2).symm⟩, fun z => by omega⟩⟩⟩⟩, fun b => ⟨fun d => QI.ret ⟨SC.rfl, W_X12_drawn (Q := QI T _) ⟨fun z => by omega, fun _ => ⟨fun z => by omega, fun _ => ⟨by omega, fun z => by omega, fun _ => jans h rfl⟩⟩⟩⟩, fun d => ⟨by omega, W_X0_yearsOf (Q := QI T _) ⟨fun g => ⟨by omega, QI.ret (QI.ret ⟨SC.rfl, W_X12_drawn (Q := QI T _) ⟨fun z => by omega, fun _ => ⟨fun z => by omega, fun _ => ⟨by omega, fun _ => ⟨by omega, jans h ?_⟩, fun z => by omega⟩⟩⟩⟩)⟩, fun g => QI.ret (QI.ret ⟨SC.rfl, W_X12_drawn (Q := QI T _) ⟨fun z => by omega, fun _ => ⟨fun z => by omega, fun _ => ⟨by omega, fun z => by omega, fun _ => jans h rfl⟩⟩⟩⟩)⟩⟩⟩⟩
  rw [e74 (x - 100) (by omega) (by omega)]
  exact congrArg (c 108) (by omega)
theorem c_leaf {T : List Shp} {c : Cm} {n : Nat} {x v : Int} (h : REL T c n) (h0 : x = 0 → c 79 0 = v) (h1 : x = 1 → c 79 1 = v) (h2 : x = 2 → c 79 3 = v) (h3 : x = 3 → c 79 4 = v) (h4 : x = 4 → c 79 5 = v) (h5 : x = 5 → c 79 6 = v) (h6 : x = 6 → c 77 9 = v) (h7 : x = 7 → c 78 1 = v) (h8 : x = 8 → c 78 2 = v) (h9 : x = 9 → c 78 3 = v) (h10 : x = 10 → c 78 5 = v) (h11 : x = 11 → c 78 6 = v) (h12 : x = 12 → c 79 2 = v) (h13 : 13 ≤ x → x ≤ 17 → c 79 (7 + x - 13) = v) (ho : ¬ (0 ≤ x ∧ x ≤ 17) → -1 = v) : QI T (JP T c n 339 [vI x]) (some (some (vI v), (SH T, c))) := QI.ret ⟨SC.rfl, W_X12_count (Q := QI T _) ⟨fun z => jans h (h0 z), fun z => jans h (h1 z), fun z => jans h (h2 z), fun z => jans h (h3 z), fun z => jans h (h4 z), fun z => jans h (h5 z), fun z => jans h (h6 z), fun z => jans h (h7 z), fun z => jans h (h8 z), fun z => jans h (h9 z), fun z => jans h (h10 z), fun z => jans h (h11 z), fun z => jans h (h12 z), fun z => ⟨fun w => ⟨by omega, jans h (h13 w.1 w.2)⟩, fun w => jans h (ho (by omega))⟩⟩⟩
theorem j_count {T : List Shp} {c : Cm} {n : Nat} {x : Int} (h : REL T c n) : JN T c n 169 339 [vI x] := by
  have hs := h.cs
  obtain ⟨⟨e0, e2, e5, e7, e8, e11, e13, t0, t1, t2, t3, t4⟩, -⟩ := hs
  have t9 := h.2.2.1.1
  obtain ⟨-, ⟨f1, f2, f3, f5, f6⟩, -⟩ := h.2.2.2.2.1
  have L47 : ∀ Q : Res → Prop, (∀ v, (x = 0 → c 79 0 = v) → (x = 1 → c 79 1 = v) → (x = 2 → c 79 3 = v) → (x = 3 → c 79 4 = v) → (x = 4 → c 79 5 = v) → (x = 5 → c 79 6 = v) → (x = 6 → c 77 9 = v) → (x = 12 → c 79 2 = v) → (¬ (0 ≤ x ∧ x ≤ 17) → -1 = v) → Q (some (some (vI v), (SH T, c)))) → ¬ (7 ≤ x ∧ x ≤ 11) → Q (cev 169 1 47 [vR 1, vI x] [] (SH T, c)) := by
    intro Q k nx
    refine W_X11_count_47 ⟨fun z => k _ ?_ ?_ ?_ ?_ ?_ ?_ ?_ ?_ ?_, fun z => k _ ?_ ?_ ?_ ?_ ?_ ?_ ?_ ?_ ?_, fun z => k _ ?_ ?_ ?_ ?_ ?_ ?_ ?_ ?_ ?_, fun z => k _ ?_ ?_ ?_ ?_ ?_ ?_ ?_ ?_ ?_, fun z => k _ ?_ ?_ ?_ ?_ ?_ ?_ ?_ ?_ ?_, fun z => k _ ?_ ?_ ?_ ?_ ?_ ?_ ?_ ?_ ?_, fun z => k _ ?_ ?_ ?_ ?_ ?_ ?_ ?_ ?_ ?_, fun z => by omega, fun z => by omega, fun z => by omega, fun z => by omega, fun z => by omega, fun z => k _ ?_ ?_ ?_ ?_ ?_ ?_ ?_ ?_ ?_, fun z => k _ ?_ ?_ ?_ ?_ ?_ ?_ ?_ ?_ ?_⟩
    all_goals omega
  refine W_X11_count (Q := QI T _) ⟨fun a => ?_, fun a => ⟨fun b => ?_, fun b => ⟨by omega, ?_⟩⟩⟩
  · refine W_X11_count_22 (Q := QI T _) ⟨fun _ => ?_, fun z => by omega⟩
    refine L47 _ (fun v k0 k1 k2 k3 k4 k5 k6 k12 ko => c_leaf h k0 k1 k2 k3 k4 k5 k6 ?_ ?_ ?_ ?_ ?_ k12 ?_ ko) (by omega)
    all_goals omega
  · refine W_X11_count_22 (Q := QI T _) ⟨fun _ => ?_, fun d => ⟨fun g => ?_, fun g => ⟨by omega, ?_⟩⟩⟩
    · refine L47 _ (fun v k0 k1 k2 k3 k4 k5 k6 k12 ko => c_leaf h k0 k1 k2 k3 k4 k5 k6 ?_ ?_ ?_ ?_ ?_ k12 ?_ ko) (by omega)
      all_goals omega
    · refine L47 _ (fun v k0 k1 k2 k3 k4 k5 k6 k12 ko => c_leaf h k0 k1 k2 k3 k4 k5 k6 ?_ ?_ ?_ ?_ ?_ k12 ?_ ko) (by omega)
      all_goals omega
    · have hx : x = 13 ∨ x = 14 ∨ x = 15 ∨ x = 16 ∨ x = 17 := by omega
      refine c_leaf h ?_ ?_ ?_ ?_ ?_ ?_ ?_ ?_ ?_ ?_ ?_ ?_ ?_ (fun _ _ => ?_) ?_
      rotate_left 13
      · rcases hx with z | z | z | z | z <;> subst z
        · exact t0.symm
        · exact t1.symm
        · exact t2.symm
        · exact t3.symm
        · exact t4.symm
      all_goals omega
  · have hx : x = 7 ∨ x = 8 ∨ x = 9 ∨ x = 10 ∨ x = 11 := by omega
    rcases hx with z | z | z | z | z <;> subst z
    · exact c_leaf h (by omega) (by omega) (by omega) (by omega) (by omega) (by omega) (by omega) (fun _ => f1) (by omega) (by omega) (by omega) (by omega) (by omega) (by omega) (by omega)
    · exact c_leaf h (by omega) (by omega) (by omega) (by omega) (by omega) (by omega) (by omega) (by omega) (fun _ => f2) (by omega) (by omega) (by omega) (by omega) (by omega) (by omega)
    · exact c_leaf h (by omega) (by omega) (by omega) (by omega) (by omega) (by omega) (by omega) (by omega) (by omega) (fun _ => f3) (by omega) (by omega) (by omega) (by omega) (by omega)
    · exact c_leaf h (by omega) (by omega) (by omega) (by omega) (by omega) (by omega) (by omega) (by omega) (by omega) (by omega) (fun _ => f5) (by omega) (by omega) (by omega) (by omega)
    · exact c_leaf h (by omega) (by omega) (by omega) (by omega) (by omega) (by omega) (by omega) (by omega) (by omega) (by omega) (by omega) (fun _ => f6) (by omega) (by omega) (by omega)
theorem j_plan {T : List Shp} {c : Cm} {n : Nat} {b m w : Int} (h : REL T c n) : JN T c n 139 280 [vI b, vI m, vI w] := by
  obtain ⟨F, hc, hr⟩ := h.worlds
  refine (c_plan (b := b) (n := m) (w := w) hc).mono fun r c1 k => ?_
  have w1 := h.off k.2 rfl rfl
  have e79 : c1 79 = c 79 := k.2.cell rfl
  have ax := w1.2.2.2.1.2.1
  have g := r_plan (b := b) (n := m) (w := w) (T := T) (hr.off k.2 rfl) ax.2.1 ax.2.2
  rw [e79] at g
  refine ⟨k.2.sc rfl, g.mono fun r' c2 k2 => ?_⟩
  have ax2 : AX c2 := ⟨(k2.2.2.fld rfl).trans ax.1, k2.2.1.1, k2.2.1.2⟩
  exact ⟨k2.1.trans k.1.symm, (k.2.sc rfl).trans (k2.2.2.sc rfl), (w1.off2 k2.2.2 rfl rfl ax2).up1⟩
