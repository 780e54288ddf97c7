/-! TREES: what both answer -/
def MCf (l : List Int) : Int × Int := l.foldl (fun p x => adP p x 1) (84, 0)
theorem MCf_mc : ∀ (l : List Int), (∀ x ∈ l, x < 84) → IsMC l (MCf l) := by
  have key : ∀ (l A : List Int) (p : Int × Int), IsMC A p → (∀ x ∈ l, x < 84) → IsMC (A ++ l) (l.foldl (fun p x => adP p x 1) p) := by
    intro l
    induction l with
    | nil => intro A p h _; rw [List.append_nil]; exact h
    | cons x l ih =>
      intro A p h hx
      have a := mc_app h (one_mc (x := x)) (by simp) fun y hy => by rw [List.mem_singleton.mp hy]; exact hx x List.mem_cons_self
      have b := ih (A ++ [x]) _ a fun y hy => hx y (List.mem_cons_of_mem _ hy)
      rw [List.append_assoc] at b
      exact b
  intro l h
  exact key l [] (84, 0) (.inl ⟨rfl, rfl⟩) h
def tlw (R : Int → Int) : Int × Int := MCf (TCs R (R 5).toNat)
def tfs (R : Int → Int) : Option Nat := (dfS (R 5).toNat (R 5).toNat 1 0).find? (HitN R (R 5).toNat (tlw R).1)
def tre (R : Int → Int) (w : Int) : Int := if w = 0 then (tlw R).1 else match tfs R with | some u => if dgN u w.toNat = 0 then 100 else ((dgN u w.toNat : Nat) : Int) - 1 | none => -1
theorem TC_ne {R : Int → Int} {n : Nat} (hn : n ≤ 6) : TCs R n ≠ [] := by
  intro z
  have p1 : 2 ^ 1 ≤ 2 ^ (n + 1) := p2le (by omega)
  have := (tree_perm hn).length_eq
  have l := dp_len (N := n + 1) (s := 2 ^ (n + 1) - 1) (by omega) (by omega) (by omega)
  have e : Nat.sub (Nat.shiftLeft 1 (n + 1)) 1 = 2 ^ (n + 1) - 1 := by rw [shl1]; rfl
  rw [e, List.length_map] at this
  have z2 := congrArg List.length z
  unfold TCs at z2
  rw [List.length_map] at z2
  have : (dfS n n 1 0).length = 0 := z2
  omega
theorem tlw_mc {R : Int → Int} (hR : RNG R) : IsMC (TCs R (R 5).toNat) (tlw R) := by
  have h1 := hR.1
  refine MCf_mc _ fun x hx => ?_
  rw [TC_cs (by omega)] at hx
  obtain ⟨u, _, e⟩ := List.mem_map.mp hx
  have := cs_bd (R := R) (u := u) (R 5).toNat
  omega
theorem tfs_some {R : Int → Int} (hR : RNG R) : ∃ u, tfs R = some u := by
  have h1 := hR.1
  rcases tlw_mc hR with ⟨z, _⟩ | ⟨a, _⟩
  · exact absurd z (TC_ne (by omega))
  · rw [TC_cs (by omega)] at a
    obtain ⟨u, hu, e⟩ := List.mem_map.mp a
    cases f : tfs R with
    | some v => exact ⟨v, rfl⟩
    | none => exact absurd (decide_eq_true e) (List.find?_eq_none.mp f u hu)
theorem c_trees {T : List Shp} {c : Cm} {R : Int → Int} (h : CS c R) (hR : RNG R) : QI T (fun r c' => r = (tlw R).2 ∧ Off [49, 50, 51, 52] [] c c') (ccal 148 [vR 1] (SH T, c)) := by
  have h1 := hR.1
  have e5 : R 5 = ((R 5).toNat : Int) := by omega
  refine W_X11_trees (Q := QI T _) ((c_weigh h hR e5).mono fun c1 h2 => QI.of_eq (c_waysInAll (by omega) h2.1.1) (QI.ret ⟨?_, h2.2.2⟩))
  have := c_full (by omega) h2.2.1
  exact congrArg Prod.snd (mc_uniq this (tlw_mc hR))
theorem c_tree {T : List Shp} {c : Cm} {R : Int → Int} {w : Int} (h : CS c R) (hR : RNG R) : QI T (fun r c' => r = (if 0 ≤ w ∧ w ≤ R 5 then tre R w else -1) ∧ Off [49, 50, 51, 52, 53] [] c c') (ccal 147 [vR 1, vI w] (SH T, c)) := by
  have h1 := hR.1
  have e5 : R 5 = ((R 5).toNat : Int) := by omega
  have e11 := h.1.2.2.2.2.2.1
  refine W_X11_tree (Q := QI T _) ?_
  rw [e11]
  refine ⟨fun e => QI.ret ⟨by rw [if_neg (by omega)], Off.rfl⟩, fun e => ⟨fun e2 => QI.ret ⟨by rw [if_neg (by omega)], Off.rfl⟩, fun e2 => ?_⟩⟩
  refine (c_weigh h hR e5).mono fun c1 h2 => ?_
  have mu := mc_uniq (c_full (by omega) h2.2.1) (tlw_mc hR)
  have mL : c1 51 ((2 ^ ((R 5).toNat + 1) - 1 : Nat) : Int) = (tlw R).1 := congrArg Prod.fst mu
  rw [if_pos (show 0 ≤ w ∧ w ≤ R 5 by omega)]
  refine ⟨fun e3 => QI.of_eq (c_changed (by omega) h2.1.1) (QI.ret ⟨?_, h2.2.2.mono rfl rfl⟩), fun e3 => ?_⟩
  · unfold tre
    rw [if_pos e3]
    exact mL
  · obtain ⟨u, hu⟩ := tfs_some hR
    obtain ⟨x, rfl⟩ := Int.eq_ofNat_of_zero_le (show 0 ≤ w by omega)
    have m := dfS_mem (n := (R 5).toNat) (by omega) (R 5).toNat 1 0 u (by decide) (by decide) (List.mem_of_find?_eq_some hu)
    have dx := m.2.2 x (by omega) (by omega)
    refine (c_parentOf (by omega) h2.1 mL hu ⟨by omega, by omega⟩).mono fun r c2 h3 => ?_
    have o := (h2.2.2.mono (L' := [49, 50, 51, 52, 53]) (F' := []) rfl rfl).trans (h3.2.mono rfl rfl)
    have et : tre R (x : Int) = if dgN u x = 0 then 100 else ((dgN u x : Nat) : Int) - 1 := by
      unfold tre
      rw [if_neg e3, hu, Int.toNat_natCast]
    rw [h3.1, et]
    refine ⟨fun e4 => QI.ret ⟨?_, o⟩, fun e4 => ⟨by omega, QI.ret ⟨?_, o⟩⟩⟩
    · rw [if_pos (by omega)]
    · rw [if_neg (by omega)]
theorem r_trees {T : List Shp} {c : Cm} {F : List Clz} (h : RWd c F) : QI T (fun r c' => r = (tlw (c 79)).2 ∧ Off [102, 103] [0, 49, 50] c c') (ccal 297 [vR 78] (SH T, c)) := by
  have h1 := h.1.1
  have e5 : c 79 5 = ((c 79 5).toNat : Int) := by omega
  have o0 : Off [102, 103] [0, 49, 50] c (up c 77 0 0) := Off.rfl.wr rfl
  have hw := h.off o0 rfl
  have er : (up c 77 0 0) 79 = c 79 := o0.row rfl
  refine W_X12_trees (Q := QI T _) ((r_findTree (n := (c 79 5).toNat) hw (by rw [er]; exact e5)).mono fun c1 h2 => QI.ret ⟨?_, o0.trans (h2.2.mono rfl rfl)⟩)
  rw [er] at h2
  rcases h2.1 with ⟨z, _⟩ | ⟨_, b, _⟩
  · exact absurd (show TCs (c 79) (c 79 5).toNat = [] by unfold TCs; rw [z]; rfl) (TC_ne (by omega))
  · rw [← TC_cs (by omega)] at b
    exact congrArg Prod.snd (mc_uniq b (tlw_mc h.1))
theorem r_tree {T : List Shp} {c : Cm} {F : List Clz} {w : Int} (h : RWd c F) : QI T (fun r c' => r = (if 0 ≤ w ∧ w ≤ c 79 5 then tre (c 79) w else -1) ∧ Off [102, 103] [0, 49, 50] c c') (ccal 296 [vR 78, vI w] (SH T, c)) := by
  have h1 := h.1.1
  have e5 : c 79 5 = ((c 79 5).toNat : Int) := by omega
  have o0 : Off [102, 103] [0, 49, 50] c (up c 77 0 0) := Off.rfl.wr rfl
  have hw := h.off o0 rfl
  have er : (up c 77 0 0) 79 = c 79 := o0.row rfl
  refine W_X12_tree (Q := QI T _) ⟨fun e => ?_, fun e => QI.ret ⟨by rw [if_neg e], o0⟩⟩
  rw [if_pos e]
  refine (r_findTree (n := (c 79 5).toNat) hw (by rw [er]; exact e5)).mono fun c1 h2 => ?_
  rw [er] at h2
  have o := o0.trans (h2.2.mono (L' := [102, 103]) (F' := [0, 49, 50]) rfl rfl)
  rcases h2.1 with ⟨z, _⟩ | ⟨_, b, u, hu, hf⟩
  · exact absurd (show TCs (c 79) (c 79 5).toNat = [] by unfold TCs; rw [z]; rfl) (TC_ne (by omega))
  · rw [← TC_cs (by omega)] at b
    have e49 : c1 77 49 = (tlw (c 79)).1 := congrArg Prod.fst (mc_uniq b (tlw_mc h.1))
    rw [e49] at hu
    refine ⟨fun e2 => QI.ret ⟨?_, o⟩, fun e2 => ⟨by omega, ?_⟩⟩
    · unfold tre
      rw [if_pos e2]
      exact e49
    · obtain ⟨x, rfl⟩ := Int.eq_ofNat_of_zero_le (show 0 ≤ w by omega)
      have m := dfS_mem (n := (c 79 5).toNat) (by omega) (c 79 5).toNat 1 0 u (by decide) (by decide) (List.mem_of_find?_eq_some hu)
      have dx := m.2.2 x (by omega) (by omega)
      have fx := hf (x - 1) (by omega)
      rw [show ((x - 1 : Nat) : Int) = (x : Int) - 1 from by omega, show x - 1 + 1 = x from by omega] at fx
      have et : tre (c 79) (x : Int) = if dgN u x = 0 then 100 else ((dgN u x : Nat) : Int) - 1 := by
        unfold tre tfs
        rw [if_neg e2, hu, Int.toNat_natCast]
      rw [fx, et]
      refine ⟨fun e4 => QI.ret ⟨?_, o⟩, fun e4 => ⟨by omega, QI.ret ⟨?_, o⟩⟩⟩
      · rw [if_pos (by omega)]
      · rw [if_neg (by omega)]
