/-! WHOLE RUNS of a piece -/
theorem c_worksa {T : List Shp} {c : Cm} {x : Int} {u v : Nat} {S W : Int → Int} {n p q need : Int} {o : Option Int} (hx : TXA T x u v) (hpq : 0 ≤ p ∧ p ≤ q ∧ q - p ≤ 449) (hq : q < n) (hn : n ≤ 450) (hneed : need ≤ 100) (h1 : PCA T x u v S W n need p q o) (hst : STA c u v S W n) (hS : S q = 12 + 16 * 0) (hl : ∀ n5 n2 f3 f6, drf (SH T) x = some (u, (20, n2, f3)) → drf (SH T) (f3.getD 1 0) = some (v, (0, n5, f6)) → n ≤ n5) : QI T (fun r c' => (o = none → r = 0) ∧ (∀ y, o = some y → r = 1 ∧ c' 15 2 = y) ∧ Off [15, 16] [] c c') (ccal 20 [vR 16, vR x, vI p, vR 18] (SH T, c)) := by
  obtain ⟨n2, f3, n5, f6, e1, e2, hu, hv⟩ := hx
  have nl := hl n5 n2 f3 f6 e1 e2
  have dd := deed_of (d := 12) (k := 0) (by omega) (by omega)
  have o0 : Off [15, 16] [] c (up c 15 1 0) := Off.rfl.wr rfl
  refine W_X3_worksa (Q := QI T _) ?_
  refine h1 (QI T _) (up c 15 1 0) 0 0 (hst.off o0 hu hv) up_same (by omega) (by omega) (by omega) (by omega) (fun e c' oc => QI.ret ⟨fun _ => rfl, fun y ey => ?_, o0.trans oc⟩) fun y ey c1 t1 q1 k1 k2 k3 k4 k5 => ?_
  · rw [e] at ey; exact absurd ey (by simp)
  · have st1 := (hst.off o0 hu hv).off q1 hu hv
    refine W_X3_worksa_11 (p1 := u) (n2 := n2) (f3 := f3) (p4 := v) (n5 := n5) (f6 := f6) ⟨fun _ => ⟨e1, ?_⟩, fun z => absurd (show t1 < 450 by omega) z⟩
    rw [st1.2.1, st1.1, hS, dd.1, dd.2, k1]
    refine ⟨fun _ => ⟨⟨e1, e2, by omega, by omega⟩, fun z => absurd z (by decide), fun _ => ⟨fun z => absurd z (by decide), fun _ => ⟨fun z => absurd z (by decide), fun _ => ⟨fun _ => QI.ret ⟨fun en => ?_, fun y' ey' => ⟨rfl, ?_⟩, (o0.trans q1).wr rfl⟩, fun z => absurd rfl z⟩⟩⟩⟩, fun z => absurd (show 0 ≤ q ∧ q < n by omega) z⟩
    · rw [ey] at en; exact absurd en (by simp)
    · rw [up_same, k2]
      rw [ey] at ey'
      exact Option.some.inj ey'
theorem r_reckonAll {T : List Shp} {c : Cm} {R : Int → Int} {A p q need : Int} {W : Int → Int} {o : Option Int} (hpq : 0 ≤ p ∧ p ≤ q ∧ q ≤ 400) (hneed : need ≤ 400) (h1 : PCR T R A W need p q o) (hst : STR0 c A W) (hR : c 79 = R) : QV T (fun c' => (o = none → c' 77 34 = 1) ∧ (∀ y, o = some y → c' 77 34 = 0 ∧ c' 77 35 = y) ∧ Off [94] [34, 35] c c') (ccal 247 [vR 78, vI p, vI q] (SH T, c)) := by
  have o0 : Off [94] [34, 35] c (up c 77 34 0) := Off.rfl.wr rfl
  refine W_X12_reckonAll (Q := QV T _) ?_
  refine h1 (QV T _) (up c 77 34 0) q 0 (hst.off o0) ((o0.cell (q := 79) rfl).trans hR) up_same (by omega) (by omega) (by omega) hpq.2.2 (fun e c' oc e34 => QV.ret ⟨fun _ => e34, fun y ey => ?_, o0.trans oc⟩) fun y ey c1 q1 k1 k2 k3 => ?_
  · rw [e] at ey; exact absurd ey (by simp)
  · refine W_X12_reckonAll_10 ⟨fun z => absurd z (by omega), fun _ => W_X12_reckonAll_313 ⟨fun _ => QV.ret ⟨fun en => ?_, fun y' ey' => ⟨?_, ?_⟩, (o0.trans q1).wr rfl⟩, fun z => absurd (show (0 : Int) < 0 + 1 by decide) z⟩⟩
    · rw [ey] at en; exact absurd en (by simp)
    · rw [up_ne (by decide)]; exact k1
    · rw [up_same, k2]
      rw [ey] at ey'
      exact Option.some.inj ey'
