/-! COPIES beside one another: like, near, dated. -/
/-- where a node's picture lies (0: what was painted first) -/
def nod (a : Int) : Int := if a = 0 then 12 else 276 + 12 * (a - 1)
def lik (R : Int → Int) (a b : Int) : Int := apr R (nod a) (nod b)
theorem lik_bd {R : Int → Int} {a b : Int} : 0 ≤ lik R a b ∧ lik R a b ≤ 12 := apr_bd
theorem nod_bd {a : Int} (h : 0 ≤ a ∧ a ≤ 6) : 12 ≤ nod a ∧ nod a ≤ 336 := by unfold nod; split <;> omega
theorem apr_sym {R : Int → Int} {a b : Int} : apr R a b = apr R b a := foldI_congr fun i y _ _ => by
  by_cases h : R (a + i) = R (b + i)
  · rw [if_pos h, if_pos h.symm]
  · rw [if_neg h, if_neg (fun e => h e.symm)]
theorem lik_sym {R : Int → Int} {a b : Int} : lik R a b = lik R b a := apr_sym
theorem c_toneIn {T : List Shp} {c : Cm} {R : Int → Int} {a x : Int} (h : CS c R) (ha : 0 ≤ a ∧ a ≤ 6) (hx : 0 ≤ x ∧ x < 12) : ccal 87 [vR 50, vI a, vI x] (SH T, c) = some (some (vI (R (nod a + x))), (SH T, c)) := by
  refine W_X8_toneIn (Q := fun Z => Z = some (some (vI (R (nod a + x))), (SH T, c))) ⟨fun e => ⟨by omega, ?_⟩, fun e => ⟨by omega, ?_⟩⟩
  · rw [h.2.2.2.2.1 x (by omega) (by omega)]; unfold nod; rw [if_pos e]
  · rw [h.2.2.2.2.2.1 _ (by omega) (by omega)]; unfold nod; rw [if_neg e, show 276 + ((a - 1) * 12 + x) = 276 + 12 * (a - 1) + x from by omega]
theorem c_between {T : List Shp} {c : Cm} {R : Int → Int} {a b : Int} (h : CS c R) (ha : 0 ≤ a ∧ a ≤ 6) (hb : 0 ≤ b ∧ b ≤ 6) : ccal 78 [vR 50, vI a, vI b] (SH T, c) = some (some (vI (lik R a b)), (SH T, c)) := by
  refine W_X8_between (Q := fun Z => Z = some (some (vI (lik R a b)), (SH T, c))) ?_
  refine lpI (Q := fun Z => Z = some (some (vI (lik R a b)), (SH T, c))) (E := fun i (n : Int) => cev 78 2 5 [vR 50, vI a, vI b, vI n, vI i] [] (SH T, c)) (fun i n => (0 ≤ i ∧ i ≤ 12) ∧ (0 ≤ n ∧ n ≤ i) ∧ n = foldI (fun i n => if R (nod a + i) = R (nod b + i) then n else n + 1) 0 i) 12 ?_ ?_ 0 0 ⟨by omega, by omega, rfl⟩
  · intro i n hi hI ih
    refine W_X8_between_5 (Q := fun Z => Z = some (some (vI (lik R a b)), (SH T, c))) ⟨fun _ => ?_, fun h => absurd hi h⟩
    refine QI.of_eq (c_toneIn h ha (by omega)) (QI.of_eq (c_toneIn h hb (by omega)) ⟨fun e => ⟨by omega, ih _ ⟨by omega, by omega, ?_⟩⟩, fun e => ⟨by omega, ih _ ⟨by omega, by omega, ?_⟩⟩⟩)
    · rw [foldI_succ (by omega), if_pos e]; exact hI.2.2
    · rw [foldI_succ (by omega), if_neg e, ← hI.2.2]
  · intro i n hi hI
    refine W_X8_between_5 (Q := fun Z => Z = some (some (vI (lik R a b)), (SH T, c))) ⟨fun h => absurd h (by omega), fun _ => ?_⟩
    have : i = 12 := by omega
    subst this
    rw [hI.2.2]
    rfl
theorem c_fromLayer {T : List Shp} {c : Cm} {R : Int → Int} {q l : Int} (h : CS c R) (hq : 0 ≤ q ∧ q < 6) (hl : 0 ≤ l ∧ l ≤ 16) : ccal 88 [vR 50, vI q, vI l] (SH T, c) = some (some (vI (apr R (276 + 12 * q) (12 + 12 * l))), (SH T, c)) := by
  refine W_X8_fromLayer (Q := fun Z => Z = some (some (vI (apr R (276 + 12 * q) (12 + 12 * l))), (SH T, c))) ?_
  refine lpI (Q := fun Z => Z = some (some (vI (apr R (276 + 12 * q) (12 + 12 * l))), (SH T, c))) (E := fun i (n : Int) => cev 88 1 5 [vR 50, vI q, vI l, vI n, vI i] [] (SH T, c)) (fun i n => (0 ≤ i ∧ i ≤ 12) ∧ (0 ≤ n ∧ n ≤ i) ∧ n = foldI (fun i n => if R (276 + 12 * q + i) = R (12 + 12 * l + i) then n else n + 1) 0 i) 12 ?_ ?_ 0 0 ⟨by omega, by omega, rfl⟩
  · intro i n hi hI ih
    refine W_X8_fromLayer_5 (Q := fun Z => Z = some (some (vI (apr R (276 + 12 * q) (12 + 12 * l))), (SH T, c))) ⟨fun _ => ⟨by omega, ?_⟩, fun h => absurd hi h⟩
    rw [h.2.2.2.2.2.1 _ (by omega) (by omega), h.2.2.2.2.1 _ (by omega) (by omega)]
    rw [show 276 + (q * 12 + i) = 276 + 12 * q + i from by omega, show 12 + (l * 12 + i) = 12 + 12 * l + i from by omega]
    refine ⟨fun e => ⟨by omega, ih _ ⟨by omega, by omega, ?_⟩⟩, fun e => ⟨by omega, ih _ ⟨by omega, by omega, ?_⟩⟩⟩
    · rw [foldI_succ (by omega), if_pos e]; exact hI.2.2
    · rw [foldI_succ (by omega), if_neg e, ← hI.2.2]
  · intro i n hi hI
    refine W_X8_fromLayer_5 (Q := fun Z => Z = some (some (vI (apr R (276 + 12 * q) (12 + 12 * l))), (SH T, c))) ⟨fun h => absurd h (by omega), fun _ => ?_⟩
    have : i = 12 := by omega
    subst this
    rw [hI.2.2]
    rfl
/-! near: the copies that are nearest -/
def hst (R : Int → Int) (q : Int) (s : Int × Int) : Int × Int := (if ner R q < s.1 then ner R q else s.1, if ner R q < s.1 then ishl 1 q else if ner R q = s.1 then ior s.2 (ishl 1 q) else s.2)
theorem hst_lt {R : Int → Int} {q : Int} {s : Int × Int} (h : ner R q < s.1) : hst R q s = (ner R q, ishl 1 q) := by
  unfold hst
  rw [if_pos h, if_pos h]
theorem hst_eq {R : Int → Int} {q : Int} {s : Int × Int} (h : ner R q = s.1) : hst R q s = (s.1, ior s.2 (ishl 1 q)) := by
  unfold hst
  rw [if_neg (by omega), if_neg (by omega), if_pos h]
theorem hst_gt {R : Int → Int} {q : Int} {s : Int × Int} (h : s.1 < ner R q) : hst R q s = s := by
  unfold hst
  rw [if_neg (by omega), if_neg (by omega), if_neg (by omega)]
theorem hst_any {R : Int → Int} {q : Int} {s : Int × Int} (P : Int × Int → Prop) (h1 : ner R q < s.1 → P (ner R q, ishl 1 q)) (h2 : ner R q = s.1 → P (s.1, ior s.2 (ishl 1 q))) (h3 : s.1 < ner R q → P s) : P (hst R q s) := by
  rcases Int.lt_trichotomy (ner R q) s.1 with e | e | e
  · rw [hst_lt e]; exact h1 e
  · rw [hst_eq e]; exact h2 e
  · rw [hst_gt e]; exact h3 e
def her (R : Int → Int) (n : Int) : Int × Int := foldI (hst R) (13, 0) n
theorem ner_bd {R : Int → Int} {q : Int} : 0 ≤ ner R q ∧ ner R q ≤ 12 := apr_bd
theorem her_bd {R : Int → Int} {n : Int} (hn : 0 ≤ n) (hn2 : n ≤ 6) : (0 ≤ (her R n).1 ∧ (her R n).1 ≤ 13) ∧ 0 ≤ (her R n).2 ∧ (her R n).2 < 2147483648 := by
  refine foldI_ind (fun (_ : Int) (s : Int × Int) => (0 ≤ s.1 ∧ s.1 ≤ 13) ∧ 0 ≤ s.2 ∧ s.2 < 2147483648) (by decide) ?_ hn
  intro i s a b h
  have h1 := ner_bd (R := R) (q := i)
  have sr := shl_rng (k := i) (n := 31) a (by omega) (by omega)
  have ir := ior_rng (n := 31) (by omega) h.2.1 h.2.2 sr.1 sr.2
  refine hst_any (fun s => (0 ≤ s.1 ∧ s.1 ≤ 13) ∧ 0 ≤ s.2 ∧ s.2 < 2147483648) (fun e => ⟨?_, sr⟩) (fun e => ⟨h.1, ir⟩) (fun e => h)
  show 0 ≤ ner R i ∧ ner R i ≤ 13
  omega
theorem ior_0l {s : Int} (hs : 0 ≤ s) (hs2 : s < 2147483648) : ior 0 s = s := by
  obtain ⟨a, rfl⟩ := Int.eq_ofNat_of_zero_le hs
  rw [show (0 : Int) = ((0 : Nat) : Int) from rfl, ior_nat (by decide) (by omega), Nat.zero_or]
theorem c_heirs {T : List Shp} {c : Cm} {R : Int → Int} (h : CS c R) (hR : RNG R) : ccal 174 [vR 1] (SH T, c) = some (some (vI (her R (R 5)).2), (SH T, c)) := by
  have h1 := hR.1
  have e11 := h.1.2.2.2.2.2.1
  refine W_X11_heirs (Q := fun Z => Z = some (some (vI (her R (R 5)).2), (SH T, c))) ?_
  refine lpI (Q := fun Z => Z = some (some (vI (her R (R 5)).2), (SH T, c))) (E := fun i (s : Int × Int) => cev 174 2 7 [vR 1, vI s.1, vI s.2, vI i, vU] [] (SH T, c)) (fun i s => (0 ≤ i ∧ i ≤ R 5) ∧ s = her R i) (R 5) ?_ ?_ 0 (13, 0) ⟨by omega, rfl⟩
  · intro i s hi hI ih
    have hb := her_bd (R := R) (n := i) (by omega) (by omega)
    rw [← hI.2] at hb
    have sr := shl_rng (k := i) (n := 31) (by omega) (by omega) (by omega)
    have es : her R (i + 1) = hst R i s := by rw [hI.2]; exact foldI_succ (by omega)
    refine W_X11_heirs_7 (Q := fun Z => Z = some (some (vI (her R (R 5)).2), (SH T, c))) ⟨fun _ => ?_, fun h => absurd hi (by rw [e11] at h; exact h)⟩
    refine QI.of_eq (c_nearOf h hR (by omega)) ⟨fun e => ?_, fun e => ?_⟩
    · refine W_X11_heirs_39 (Q := fun Z => Z = some (some (vI (her R (R 5)).2), (SH T, c))) ⟨fun _ => ⟨by omega, ih (ner R i, ior 0 (ishl 1 i)) ⟨by omega, ?_⟩⟩, fun h => absurd rfl h⟩
      rw [es, hst_lt e, ior_0l sr.1 sr.2]
    · refine W_X11_heirs_39 (Q := fun Z => Z = some (some (vI (her R (R 5)).2), (SH T, c))) ⟨fun e2 => ⟨by omega, ih (s.1, ior s.2 (ishl 1 i)) ⟨by omega, ?_⟩⟩, fun e2 => ⟨by omega, ih s ⟨by omega, ?_⟩⟩⟩
      · rw [es, hst_eq e2]
      · rw [es, hst_gt (by omega)]
  · intro i s hi hI
    refine W_X11_heirs_7 (Q := fun Z => Z = some (some (vI (her R (R 5)).2), (SH T, c))) ⟨fun h => absurd h (by omega), fun _ => ?_⟩
    have : i = R 5 := by omega
    rw [hI.2, this]
theorem r_near {T : List Shp} {c : Cm} {F : List Clz} {q : Int} (h : RWd c F) : ccal 291 [vR 78, vI q] (SH T, c) = some (some (vI (if q = -1 then (her (c 79) (c 79 5)).2 else if 0 ≤ q ∧ q < c 79 5 then ner (c 79) q else -1)), (SH T, up c 77 0 0)) := by
  have h1 := h.1.1
  have o0 : Off [] [0] c (up c 77 0 0) := Off.rfl.wr rfl
  have hw := h.off o0 rfl
  have er : (up c 77 0 0) 79 = c 79 := o0.row rfl
  refine W_X12_near (Q := fun Z => Z = some (some (vI (if q = -1 then (her (c 79) (c 79 5)).2 else if 0 ≤ q ∧ q < c 79 5 then ner (c 79) q else -1)), (SH T, up c 77 0 0))) ⟨fun e => ?_, fun e => ⟨by omega, fun e2 => ?_, fun e2 => ?_⟩⟩
  · rw [if_pos e]
    refine lpI (Q := fun Z => Z = some (some (vI (her (c 79) (c 79 5)).2), (SH T, up c 77 0 0))) (E := fun i (s : Int × Int) => cev 291 3 37 [vR 78, vU, vI s.2, vI s.1, vI i, vU] [] (SH T, up c 77 0 0)) (fun i s => (0 ≤ i ∧ i ≤ c 79 5) ∧ s.2 = (her (c 79) i).2 ∧ (s.1 = (her (c 79) i).1 ∨ (i = 0 ∧ s.1 = 100000000))) (c 79 5) ?_ ?_ 0 (100000000, 0) ⟨by omega, rfl, .inr ⟨rfl, rfl⟩⟩
    · intro i s hi hI ih
      have hb := her_bd (R := c 79) (n := i) (by omega) (by omega)
      have nb := ner_bd (R := c 79) (q := i)
      have es : her (c 79) (i + 1) = hst (c 79) i (her (c 79) i) := foldI_succ (by omega)
      have h13 : i = 0 → (her (c 79) i).1 = 13 := fun e => by subst e; rfl
      refine W_X12_near_37 (Q := fun Z => Z = some (some (vI (her (c 79) (c 79 5)).2), (SH T, up c 77 0 0))) ?_
      rw [er]
      refine ⟨fun _ => QI.of_eq (r_nearOf hw (by omega)) ?_, fun h => absurd hi h⟩
      rw [er]
      have key : ∀ s' : Int × Int, s' = hst (c 79) i (her (c 79) i) → cev 291 3 37 [vR 78, vU, vI s'.2, vI s'.1, vI (i + 1), vU] [] (SH T, up c 77 0 0) = some (some (vI (her (c 79) (c 79 5)).2), (SH T, up c 77 0 0)) := fun s' e => ih s' ⟨by omega, by rw [es, e], .inl (by rw [es, e])⟩
      refine ⟨fun e3 => ?_, fun e3 => ⟨fun e4 => ?_, fun e4 => ?_⟩⟩
      · refine W_X12_near_85 (Q := fun Z => Z = some (some (vI (her (c 79) (c 79 5)).2), (SH T, up c 77 0 0))) ⟨fun _ => ⟨by omega, key (ner (c 79) i, ishl 1 i) ?_⟩, fun h => absurd e3 h⟩
        rw [hst_lt (by omega)]
      · refine W_X12_near_85 (Q := fun Z => Z = some (some (vI (her (c 79) (c 79 5)).2), (SH T, up c 77 0 0))) ⟨fun h => absurd h e3, fun _ => ⟨by omega, key (s.1, ior s.2 (ishl 1 i)) ?_⟩⟩
        rw [hst_eq (by omega), hI.2.1, show s.1 = (her (c 79) i).1 by omega]
      · refine W_X12_near_85 (Q := fun Z => Z = some (some (vI (her (c 79) (c 79 5)).2), (SH T, up c 77 0 0))) ⟨fun h => absurd h e3, fun _ => ⟨by omega, key (s.1, s.2) ?_⟩⟩
        rw [hst_gt (by omega), hI.2.1, show s.1 = (her (c 79) i).1 by omega]
    · intro i s hi hI
      refine W_X12_near_37 (Q := fun Z => Z = some (some (vI (her (c 79) (c 79 5)).2), (SH T, up c 77 0 0))) ?_
      rw [er]
      refine ⟨fun h => absurd h (by omega), fun _ => ?_⟩
      have : i = c 79 5 := by omega
      rw [hI.2.1, this]
  · rw [if_neg e, if_pos e2]
    exact QI.of_eq (r_nearOf hw (by omega)) (by rw [er])
  · rw [if_neg e, if_neg e2]
def liq (R : Int → Int) (a b : Int) : Int := if (a = -1 ∨ 0 ≤ a ∧ a < R 5) ∧ (b = -1 ∨ 0 ≤ b ∧ b < R 5) then lik R (a + 1) (b + 1) else -1
theorem r_like {T : List Shp} {c : Cm} {F : List Clz} {a b : Int} (h : RWd c F) : ccal 293 [vR 78, vI a, vI b] (SH T, c) = some (some (vI (liq (c 79) a b)), (SH T, up c 77 0 0)) := by
  have h1 := h.1.1
  have o0 : Off [] [0] c (up c 77 0 0) := Off.rfl.wr rfl
  have hw := h.off o0 rfl
  have er : (up c 77 0 0) 79 = c 79 := o0.row rfl
  have last : ∀ v : Int, (v = 0 → ¬ ((a = -1 ∨ 0 ≤ a ∧ a < c 79 5) ∧ (b = -1 ∨ 0 ≤ b ∧ b < c 79 5))) → (v ≠ 0 → ((a = -1 ∨ 0 ≤ a ∧ a < c 79 5) ∧ (b = -1 ∨ 0 ≤ b ∧ b < c 79 5))) → cev 293 3 36 [vR 78, vI a, vI b, vU] [vI v] (SH T, up c 77 0 0) = some (some (vI (liq (c 79) a b)), (SH T, up c 77 0 0)) := by
    intro v h0 h2
    refine W_X12_like_36 (Q := fun Z => Z = some (some (vI (liq (c 79) a b)), (SH T, up c 77 0 0))) ⟨fun e => ?_, fun e => ?_⟩
    · unfold liq
      rw [if_neg (h0 e)]
    · unfold liq
      rw [if_pos (h2 e)]
      have h3 := h2 e
      refine ⟨by omega, QI.of_eq (r_apart (by split <;> omega) (by split <;> omega)) ?_⟩
      rw [er]
      unfold lik nod
      have e1 : (if a = -1 then (12 : Int) else 276 + 12 * a) = if a + 1 = 0 then 12 else 276 + 12 * (a + 1 - 1) := by
        by_cases q : a = -1
        · rw [if_pos q, if_pos (by omega)]
        · rw [if_neg q, if_neg (by omega)]; omega
      have e2 : (if b = -1 then (12 : Int) else 276 + 12 * b) = if b + 1 = 0 then 12 else 276 + 12 * (b + 1 - 1) := by
        by_cases q : b = -1
        · rw [if_pos q, if_pos (by omega)]
        · rw [if_neg q, if_neg (by omega)]; omega
      rw [e1, e2]
  have mid : (a = -1 ∨ 0 ≤ a ∧ a < c 79 5) → cev 293 3 18 [vR 78, vI a, vI b, vU] [] (SH T, up c 77 0 0) = some (some (vI (liq (c 79) a b)), (SH T, up c 77 0 0)) := by
    intro ha
    refine W_X12_like_18 (Q := fun Z => Z = some (some (vI (liq (c 79) a b)), (SH T, up c 77 0 0))) ⟨fun e => ?_, fun e => ?_⟩
    · exact last 1 (fun h => absurd h (by decide)) (fun _ => ⟨ha, .inl e⟩)
    · rw [er]
      refine ⟨by omega, fun e2 => ?_, fun e2 => ?_⟩
      · exact last 1 (fun h => absurd h (by decide)) (fun _ => ⟨ha, .inr e2⟩)
      · exact last 0 (fun _ h => by omega) (fun h => absurd rfl h)
  refine W_X12_like (Q := fun Z => Z = some (some (vI (liq (c 79) a b)), (SH T, up c 77 0 0))) ⟨fun e => mid (.inl e), fun e => ⟨by omega, fun e2 => mid (.inr e2), fun e2 => last 0 (fun _ h => by omega) (fun h => absurd rfl h)⟩⟩
/-! dated: by which layer -/
def dst4 (R : Int → Int) (q l : Int) (s : Int × Int × Int × Int) : Int × Int × Int × Int := (if apr R (276 + 12 * q) (12 + 12 * l) < s.1 then apr R (276 + 12 * q) (12 + 12 * l) else s.1, if apr R (276 + 12 * q) (12 + 12 * l) < s.1 then l else s.2.1, if s.1 < apr R (276 + 12 * q) (12 + 12 * l) then s.2.2.1 else l, if apr R (276 + 12 * q) (12 + 12 * l) < s.1 then 1 else if apr R (276 + 12 * q) (12 + 12 * l) = s.1 then s.2.2.2 + 1 else s.2.2.2)
theorem dst4_lt {R : Int → Int} {q l : Int} {s : Int × Int × Int × Int} (h : apr R (276 + 12 * q) (12 + 12 * l) < s.1) : dst4 R q l s = (apr R (276 + 12 * q) (12 + 12 * l), l, l, 1) := by
  unfold dst4
  rw [if_pos h, if_pos h, if_pos h, if_neg (by omega)]
theorem dst4_eq {R : Int → Int} {q l : Int} {s : Int × Int × Int × Int} (h : apr R (276 + 12 * q) (12 + 12 * l) = s.1) : dst4 R q l s = (s.1, s.2.1, l, s.2.2.2 + 1) := by
  unfold dst4
  rw [if_neg (show ¬ apr R (276 + 12 * q) (12 + 12 * l) < s.1 by omega), if_neg (show ¬ apr R (276 + 12 * q) (12 + 12 * l) < s.1 by omega), if_neg (show ¬ s.1 < apr R (276 + 12 * q) (12 + 12 * l) by omega), if_neg (show ¬ apr R (276 + 12 * q) (12 + 12 * l) < s.1 by omega), if_pos h]
theorem dst4_gt {R : Int → Int} {q l : Int} {s : Int × Int × Int × Int} (h : s.1 < apr R (276 + 12 * q) (12 + 12 * l)) : dst4 R q l s = s := by
  unfold dst4
  rw [if_neg (show ¬ apr R (276 + 12 * q) (12 + 12 * l) < s.1 by omega), if_neg (show ¬ apr R (276 + 12 * q) (12 + 12 * l) < s.1 by omega), if_pos h, if_neg (show ¬ apr R (276 + 12 * q) (12 + 12 * l) < s.1 by omega), if_neg (show ¬ apr R (276 + 12 * q) (12 + 12 * l) = s.1 by omega)]
def dat4 (R : Int → Int) (q n : Int) : Int × Int × Int × Int := foldI (dst4 R q) (13, 0, 0, 0) n
def dat (R : Int → Int) (q w : Int) : Int := if w = 0 then (dat4 R q (R 4 + 1)).1 else if w = 1 then (dat4 R q (R 4 + 1)).2.1 else if w = 2 then (dat4 R q (R 4 + 1)).2.2.1 else (dat4 R q (R 4 + 1)).2.2.2
theorem dat4_bd {R : Int → Int} {q n : Int} (hn : 0 ≤ n) : (0 ≤ (dat4 R q n).1 ∧ (dat4 R q n).1 ≤ 13) ∧ 0 ≤ (dat4 R q n).2.2.2 ∧ (dat4 R q n).2.2.2 ≤ n := by
  refine foldI_ind (fun (i : Int) (s : Int × Int × Int × Int) => (0 ≤ s.1 ∧ s.1 ≤ 13) ∧ 0 ≤ s.2.2.2 ∧ s.2.2.2 ≤ i) (by decide) ?_ hn
  intro i s a b h
  have h1 := apr_bd (R := R) (a := 276 + 12 * q) (b := 12 + 12 * i)
  rcases Int.lt_trichotomy (apr R (276 + 12 * q) (12 + 12 * i)) s.1 with e | e | e
  · rw [dst4_lt e]
    show (0 ≤ apr R (276 + 12 * q) (12 + 12 * i) ∧ apr R (276 + 12 * q) (12 + 12 * i) ≤ 13) ∧ (0 : Int) ≤ 1 ∧ (1 : Int) ≤ i + 1
    omega
  · rw [dst4_eq e]
    show (0 ≤ s.1 ∧ s.1 ≤ 13) ∧ 0 ≤ s.2.2.2 + 1 ∧ s.2.2.2 + 1 ≤ i + 1
    omega
  · rw [dst4_gt e]
    omega
theorem c_datedBy {T : List Shp} {c : Cm} {R : Int → Int} {q w : Int} (h : CS c R) (hR : RNG R) (hq : 0 ≤ q ∧ q < 6) : ccal 83 [vR 50, vI q, vI w] (SH T, c) = some (some (vI (dat R q w)), (SH T, c)) := by
  have h1 := hR.1
  have e8 := h.1.2.2.2.2.1
  refine W_X8_datedBy (Q := fun Z => Z = some (some (vI (dat R q w)), (SH T, c))) ?_
  refine lpI (Q := fun Z => Z = some (some (vI (dat R q w)), (SH T, c))) (E := fun i (s : Int × Int × Int × Int) => cev 83 2 15 [vR 50, vI q, vI w, vI s.1, vI s.2.1, vI s.2.2.1, vI s.2.2.2, vI i, vU] [] (SH T, c)) (fun i s => (0 ≤ i ∧ i ≤ R 4 + 1) ∧ s = dat4 R q i) (R 4 + 1) ?_ ?_ 0 (13, 0, 0, 0) ⟨by omega, rfl⟩
  · intro i s hi hI ih
    have hb := dat4_bd (R := R) (q := q) (n := i) (by omega)
    rw [← hI.2] at hb
    have es : dat4 R q (i + 1) = dst4 R q i s := by rw [hI.2]; exact foldI_succ (by omega)
    have nb := apr_bd (R := R) (a := 276 + 12 * q) (b := 12 + 12 * i)
    refine W_X8_datedBy_15 (Q := fun Z => Z = some (some (vI (dat R q w)), (SH T, c))) ⟨fun h => absurd h (by omega), fun _ => ?_⟩
    refine QI.of_eq (c_fromLayer h hq (by omega)) ⟨fun e => ?_, fun e => ?_⟩
    · refine W_X8_datedBy_52 (Q := fun Z => Z = some (some (vI (dat R q w)), (SH T, c))) ⟨fun _ => ⟨by omega, ih (apr R (276 + 12 * q) (12 + 12 * i), i, i, 0 + 1) ⟨by omega, ?_⟩⟩, fun h => absurd rfl h⟩
      rw [es, dst4_lt e]
      rfl
    · refine W_X8_datedBy_52 (Q := fun Z => Z = some (some (vI (dat R q w)), (SH T, c))) ⟨fun e2 => ⟨by omega, ih (s.1, s.2.1, i, s.2.2.2 + 1) ⟨by omega, ?_⟩⟩, fun e2 => ⟨by omega, ih s ⟨by omega, ?_⟩⟩⟩
      · rw [es, dst4_eq e2]
      · rw [es, dst4_gt (by omega)]
  · intro i s hi hI
    have : i = R 4 + 1 := by omega
    subst this
    refine W_X8_datedBy_15 (Q := fun Z => Z = some (some (vI (dat R q w)), (SH T, c))) ?_
    unfold dat
    rw [← hI.2]
    refine ⟨fun _ => ⟨fun e => ?_, fun e => ?_, fun e => ?_, fun e => ?_⟩, fun h => absurd (show c 1 8 < R 4 + 1 by omega) h⟩
    · rw [if_pos e]
    · rw [if_neg (by omega), if_pos e]
    · rw [if_neg (by omega), if_neg (by omega), if_pos e]
    · rw [if_neg (by omega), if_neg (by omega), if_neg (by omega)]
theorem r_dated {T : List Shp} {c : Cm} {F : List Clz} {q w : Int} (h : RWd c F) : ccal 298 [vR 78, vI q, vI w] (SH T, c) = some (some (vI (if (0 ≤ q ∧ q < c 79 5) ∧ 0 ≤ w ∧ w ≤ 3 then dat (c 79) q w else -1)), (SH T, up c 77 0 0)) := by
  have h1 := h.1.1
  have o0 : Off [] [0] c (up c 77 0 0) := Off.rfl.wr rfl
  have er : (up c 77 0 0) 79 = c 79 := o0.row rfl
  refine W_X12_dated (Q := fun Z => Z = some (some (vI (if (0 ≤ q ∧ q < c 79 5) ∧ 0 ≤ w ∧ w ≤ 3 then dat (c 79) q w else -1)), (SH T, up c 77 0 0))) ⟨by omega, fun e => ⟨fun e2 => ?_, fun e2 => ?_⟩, fun e => ?_⟩
  · rw [if_pos ⟨e, e2⟩]
    refine lpI (Q := fun Z => Z = some (some (vI (dat (c 79) q w)), (SH T, up c 77 0 0))) (E := fun i (s : Int × Int × Int × Int) => cev 298 3 43 [vR 78, vI q, vI w, vI s.1, vI s.2.1, vI s.2.2.1, vI s.2.2.2, vI i, vU] [] (SH T, up c 77 0 0)) (fun i s => (0 ≤ i ∧ i ≤ c 79 4 + 1) ∧ s.2 = (dat4 (c 79) q i).2 ∧ (s.1 = (dat4 (c 79) q i).1 ∨ (i = 0 ∧ s.1 = 100000000))) (c 79 4 + 1) ?_ ?_ 0 (100000000, 0, 0, 0) ⟨by omega, rfl, .inr ⟨rfl, rfl⟩⟩
    · intro i s hi hI ih
      have hb := dat4_bd (R := c 79) (q := q) (n := i) (by omega)
      have es : dat4 (c 79) q (i + 1) = dst4 (c 79) q i (dat4 (c 79) q i) := foldI_succ (by omega)
      have nb := apr_bd (R := c 79) (a := 276 + 12 * q) (b := 12 + 12 * i)
      have h13 : i = 0 → (dat4 (c 79) q i).1 = 13 := fun e => by subst e; rfl
      rw [← hI.2.1] at hb
      refine W_X12_dated_43 (Q := fun Z => Z = some (some (vI (dat (c 79) q w)), (SH T, up c 77 0 0))) ?_
      rw [er]
      refine ⟨fun h => absurd h (by omega), fun _ => ⟨by omega, QI.of_eq (r_apart (by omega) (by omega)) ?_⟩⟩
      rw [er]
      have key : ∀ s' : Int × Int × Int × Int, s' = dst4 (c 79) q i (dat4 (c 79) q i) → cev 298 3 43 [vR 78, vI q, vI w, vI s'.1, vI s'.2.1, vI s'.2.2.1, vI s'.2.2.2, vI (i + 1), vU] [] (SH T, up c 77 0 0) = some (some (vI (dat (c 79) q w)), (SH T, up c 77 0 0)) := fun s' e => ih s' ⟨by omega, by rw [es, e], .inl (by rw [es, e])⟩
      refine ⟨fun e3 => ?_, fun e3 => ?_⟩
      · refine W_X12_dated_87 (Q := fun Z => Z = some (some (vI (dat (c 79) q w)), (SH T, up c 77 0 0))) ⟨fun _ => ?_, fun h => absurd e3 h⟩
        refine W_X12_dated_114 (Q := fun Z => Z = some (some (vI (dat (c 79) q w)), (SH T, up c 77 0 0))) ⟨fun h => absurd h (by omega), fun _ => ?_⟩
        refine W_X12_dated_129 (Q := fun Z => Z = some (some (vI (dat (c 79) q w)), (SH T, up c 77 0 0))) ⟨fun _ => ⟨by omega, key (apr (c 79) (276 + 12 * q) (12 + 12 * i), i, i, 1) ?_⟩, fun h => absurd e3 h⟩
        rw [dst4_lt (by omega)]
      · refine W_X12_dated_87 (Q := fun Z => Z = some (some (vI (dat (c 79) q w)), (SH T, up c 77 0 0))) ⟨fun h => absurd h e3, fun _ => ⟨fun e4 => ⟨by omega, ?_⟩, fun e4 => ?_⟩⟩
        · refine W_X12_dated_114 (Q := fun Z => Z = some (some (vI (dat (c 79) q w)), (SH T, up c 77 0 0))) ⟨fun h => absurd h (by omega), fun _ => ?_⟩
          refine W_X12_dated_129 (Q := fun Z => Z = some (some (vI (dat (c 79) q w)), (SH T, up c 77 0 0))) ⟨fun h => absurd h e3, fun _ => ⟨by omega, key (s.1, s.2.1, i, s.2.2.2 + 1) ?_⟩⟩
          rw [dst4_eq (by omega), ← hI.2.1, show s.1 = (dat4 (c 79) q i).1 by omega]
        · refine W_X12_dated_114 (Q := fun Z => Z = some (some (vI (dat (c 79) q w)), (SH T, up c 77 0 0))) ⟨fun _ => ?_, fun h => absurd (show s.1 < apr (c 79) (276 + 12 * q) (12 + 12 * i) by omega) h⟩
          refine W_X12_dated_129 (Q := fun Z => Z = some (some (vI (dat (c 79) q w)), (SH T, up c 77 0 0))) ⟨fun h => absurd h e3, fun _ => ⟨by omega, key (s.1, s.2.1, s.2.2.1, s.2.2.2) ?_⟩⟩
          rw [dst4_gt (by omega)]
          exact Prod.ext (show s.1 = (dat4 (c 79) q i).1 by omega) hI.2.1
    · intro i s hi hI
      have : i = c 79 4 + 1 := by omega
      subst this
      refine W_X12_dated_43 (Q := fun Z => Z = some (some (vI (dat (c 79) q w)), (SH T, up c 77 0 0))) ?_
      rw [er]
      unfold dat
      rw [← hI.2.1, show (dat4 (c 79) q (c 79 4 + 1)).1 = s.1 by omega]
      refine ⟨fun _ => ⟨fun e => ?_, fun e => ⟨fun e2 => ?_, fun e2 => ⟨fun e3 => ?_, fun e3 => ?_⟩⟩⟩, fun h => absurd (show c 79 4 < c 79 4 + 1 by omega) h⟩
      · rw [if_pos e]
      · rw [if_neg e, if_pos e2]
      · rw [if_neg e, if_neg e2, if_pos e3]
      · rw [if_neg e, if_neg e2, if_neg e3]
  · rw [if_neg (fun h => e2 h.2)]
  · rw [if_neg (fun h => e h.1)]
