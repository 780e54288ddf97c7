/-! THE START: classes, constants and the script at the law's entry (by program) -/
theorem inst_0 : Cond.instantiable RX0 8 ∈ lw_tbl := tbw_mem (z := 2180) (by decide +kernel)
theorem inst_1 : Cond.instantiable RX1 10 ∈ lw_tbl := tbw_mem (z := 2137) (by decide +kernel)
theorem inst_2 : Cond.instantiable RX2 6 ∈ lw_tbl := tbw_mem (z := 2109) (by decide +kernel)
theorem inst_3 : Cond.instantiable RX3 3 ∈ lw_tbl := tbw_mem (z := 1169) (by decide +kernel)
theorem inst_4 : Cond.instantiable RX4 4 ∈ lw_tbl := tbw_mem (z := 1163) (by decide +kernel)
theorem inst_5 : Cond.instantiable RX5 15 ∈ lw_tbl := tbw_mem (z := 1219) (by decide +kernel)
theorem inst_6 : Cond.instantiable RX6 9 ∈ lw_tbl := tbw_mem (z := 2039) (by decide +kernel)
theorem inst_7 : Cond.instantiable RX7 15 ∈ lw_tbl := tbw_mem (z := 1030) (by decide +kernel)
theorem inst_8 : Cond.instantiable RX8 9 ∈ lw_tbl := tbw_mem (z := 2073) (by decide +kernel)
theorem inst_9 : Cond.instantiable RX9 4 ∈ lw_tbl := tbw_mem (z := 1200) (by decide +kernel)
theorem inst_10 : Cond.instantiable RX10 5 ∈ lw_tbl := tbw_mem (z := 1130) (by decide +kernel)
theorem inst_11 : Cond.instantiable RX11 19 ∈ lw_tbl := tbw_mem (z := 1022) (by decide +kernel)
theorem inst_12 : Cond.instantiable RX12 61 ∈ lw_tbl := tbw_mem (z := 6131) (by decide +kernel)
theorem inC_ : Cond.initialized "java/lang/String" ∈ lw_tbl := tbw_mem (z := 1015) (by decide +kernel)
theorem inP_ : Cond.initialized "jdk/internal/util/Preconditions" ∈ lw_tbl := tbw_mem (z := 1017) (by decide +kernel)
theorem laC_ : Cond.laysStatic "java/lang/String" "COMPACT_STRINGS" "Z" ∈ lw_tbl := tbw_mem (z := 3148) (by decide +kernel)
theorem laP_ : Cond.laysStatic "jdk/internal/util/Preconditions" "SIOOBE_FORMATTER" "Ljava/util/function/BiFunction;" ∈ lw_tbl := tbw_mem (z := 3164) (by decide +kernel)
section START
variable {s : State} {b : Nat}
theorem TB_lw : ∀ w ∈ TB, w ∈ lw_tbl := fun w h => (List.mem_filter.mp h).1
theorem law_K1 (hts : ∀ w ∈ lw_tbl, w.before #[Value.ref b] s = true) (htB : ∀ w ∈ TB, w.before #[Value.ref b] s = true) : ∀ ci : Nat, ∃ z : ClassId × (Nat → Nat), ∀ q : vw_C, vwCl[ci]? = some q → u_Kn s q.1 q.2.1 q.2.2 z.1 z.2
  | 0 => by
    obtain ⟨cC, iS, h⟩ := u_known (C := RX0) (T := TX0) (N := 8) (n := 8) htB uin_0 (hts _ inst_0)
    exact ⟨(cC, iS), fun q hq => by cases hq; exact h⟩
  | 1 => by
    obtain ⟨cC, iS, h⟩ := u_known (C := RX1) (T := TX1) (N := 10) (n := 10) htB uin_1 (hts _ inst_1)
    exact ⟨(cC, iS), fun q hq => by cases hq; exact h⟩
  | 2 => by
    obtain ⟨cC, iS, h⟩ := u_known (C := RX2) (T := TX2) (N := 6) (n := 6) htB uin_2 (hts _ inst_2)
    exact ⟨(cC, iS), fun q hq => by cases hq; exact h⟩
  | 3 => by
    obtain ⟨cC, iS, h⟩ := u_known (C := RX3) (T := TX3) (N := 3) (n := 3) htB uin_3 (hts _ inst_3)
    exact ⟨(cC, iS), fun q hq => by cases hq; exact h⟩
  | 4 => by
    obtain ⟨cC, iS, h⟩ := u_known (C := RX4) (T := TX4) (N := 4) (n := 4) htB uin_4 (hts _ inst_4)
    exact ⟨(cC, iS), fun q hq => by cases hq; exact h⟩
  | 5 => by
    obtain ⟨cC, iS, h⟩ := u_known (C := RX5) (T := TX5) (N := 15) (n := 15) htB uin_5 (hts _ inst_5)
    exact ⟨(cC, iS), fun q hq => by cases hq; exact h⟩
  | 6 => by
    obtain ⟨cC, iS, h⟩ := u_known (C := RX6) (T := TX6) (N := 9) (n := 9) htB uin_6 (hts _ inst_6)
    exact ⟨(cC, iS), fun q hq => by cases hq; exact h⟩
  | 7 => by
    obtain ⟨cC, iS, h⟩ := u_known (C := RX7) (T := TX7) (N := 15) (n := 15) htB uin_7 (hts _ inst_7)
    exact ⟨(cC, iS), fun q hq => by cases hq; exact h⟩
  | 8 => by
    obtain ⟨cC, iS, h⟩ := u_known (C := RX8) (T := TX8) (N := 9) (n := 9) htB uin_8 (hts _ inst_8)
    exact ⟨(cC, iS), fun q hq => by cases hq; exact h⟩
  | 9 => by
    obtain ⟨cC, iS, h⟩ := u_known (C := RX9) (T := TX9) (N := 4) (n := 4) htB uin_9 (hts _ inst_9)
    exact ⟨(cC, iS), fun q hq => by cases hq; exact h⟩
  | 10 => by
    obtain ⟨cC, iS, h⟩ := u_known (C := RX10) (T := TX10) (N := 5) (n := 5) htB uin_10 (hts _ inst_10)
    exact ⟨(cC, iS), fun q hq => by cases hq; exact h⟩
  | 11 => by
    obtain ⟨cC, iS, h⟩ := u_known (C := RX11) (T := TX11) (N := 19) (n := 19) htB uin_11 (hts _ inst_11)
    exact ⟨(cC, iS), fun q hq => by cases hq; exact h⟩
  | 12 => by
    obtain ⟨cC, iS, h⟩ := u_known (C := RX12) (T := TX12) (N := 61) (n := 61) htB uin_12 (hts _ inst_12)
    exact ⟨(cC, iS), fun q hq => by cases hq; exact h⟩
  | ci + 13 => ⟨(0, fun _ => 0), fun q hq => by simp [vwCl] at hq⟩
theorem law_arr {ty : FieldType} (h : (Cond.arrayClass ty).before #[Value.ref b] s = true) (hty : ∀ C, ty ≠ .object C) : ∃ c : ClassId, ArrOfT s c ty ∧ va_RA s c ty := by
  obtain ⟨c, k, comp, h1, h2, h3⟩ := Cond.arrayClass_spec h
  refine ⟨c, fun n z => ⟨fun k h => (by cases h), k, h2, comp, h3⟩, ?_⟩
  cases ty with
  | object C => exact absurd rfl (hty C)
  | _ => exact h1
theorem law_arrO {C : String} (h : (Cond.arrayOver (.object C)).before #[Value.ref b] s = true) : ∃ c : ClassId, ArrOfT s c (.object C) ∧ va_RA s c (.object C) := by
  obtain ⟨comp, c, k, h1, h2, h3, h4, h5⟩ := Cond.arrayOver_spec h
  exact ⟨c, fun n z => ⟨fun k h => (by cases h), k, h3, comp, h4⟩, k, comp, h3, h4, h1, h5⟩
theorem law_K (hts : ∀ w ∈ lw_tbl, w.before #[Value.ref b] s = true) : ∃ (D : va_G) (cA : Nat → ClassId), va_K D vwCl (tysOf cA) s := by
  have htB : ∀ w ∈ TB, w.before #[Value.ref b] s = true := fun w h => hts w (TB_lw w h)
  obtain ⟨d, hd⟩ := Classical.axiomOfChoice (law_K1 hts htB)
  obtain ⟨c0, a0, r0⟩ := law_arr (htB _ acI) (fun C h => by cases h)
  obtain ⟨c1, a1, r1⟩ := law_arr (htB _ acJ) (fun C h => by cases h)
  obtain ⟨c2, a2, r2⟩ := law_arr (htB _ acZ) (fun C h => by cases h)
  obtain ⟨c3, a3, r3⟩ := law_arrO (hts _ aoS)
  obtain ⟨c4, a4, r4⟩ := law_arrO (hts _ aoT)
  refine ⟨(fun k => (d k).1, fun k => (d k).2), fun k => match k with | 0 => c0 | 1 => c1 | 2 => c2 | 3 => c3 | _ => c4, fun c q hq => hd c q hq, fun k q hq => ?_⟩
  match k, hq with
  | 0, hq => cases hq; exact ⟨a0, r0⟩
  | 1, hq => cases hq; exact ⟨a1, r1⟩
  | 2, hq => cases hq; exact ⟨a2, r2⟩
  | 3, hq => cases hq; exact ⟨a3, r3⟩
  | 4, hq => cases hq; exact ⟨a4, r4⟩
  | k + 5, hq => simp [tysOf] at hq
/-- place of String constant i among the reader's constants -/
def kix (i : Nat) : Nat := (lkS.map (fun q => q.2.1)).getD i 0
def ktm (i : Nat) : Term := .string "AgingPortrait$Reader" (kix i)
abbrev kfl : Nat → Term := fun i => .field (ktm i) "java/lang/String" "value" "[B"
def nw1 : List Cond := flatC (Jvm.Cond.and given_1 narrow_1)
/-- the constants in the order of the start's words, each with those ahead of it -/
def PPs : List (Nat × List Nat) := [(1, []), (2, [1]), (10, [1, 2]), (11, [1, 2, 10]), (3, [1, 2, 10, 11]), (4, [1, 2, 10, 11, 3]), (5, [1, 2, 10, 11, 3, 4]), (0, [1, 2, 10, 11, 3, 4, 5]), (6, [1, 2, 10, 11, 3, 4, 5, 0]), (9, [1, 2, 10, 11, 3, 4, 5, 0, 6]), (8, [1, 2, 10, 11, 3, 4, 5, 0, 6, 9]), (7, [1, 2, 10, 11, 3, 4, 5, 0, 6, 9, 8])]
def blkE (q : Nat × List Nat) : List Cond := Cond.exactly (ktm q.1) "java/lang/String" :: Cond.eq (.field (ktm q.1) "java/lang/String" "coder" "B") (.int 0) :: Cond.arrayOf (kfl q.1) .byte :: Cond.eq (.length (kfl q.1)) (.int (Int32.ofNat (lenT.getD q.1 0))) :: ((List.range (lenT.getD q.1 0)).map (fun j => Cond.eq (.elem (kfl q.1) (.int (Int32.ofNat j))) (.int ((bytT.getD q.1 []).getD j 0))) ++ q.2.map (fun p => Cond.not (Cond.eq (ktm p) (ktm q.1))))
set_option maxRecDepth 100000 in
theorem nw_E : nw1.drop 35 = PPs.flatMap blkE := by decide +kernel
theorem nw_s4 : nw1[4]? = some (Cond.eq (.static "java/lang/String" "COMPACT_STRINGS" "Z") (.int 1)) := by decide +kernel
theorem nw_s5 : nw1[5]? = some (Cond.isRef (.static "jdk/internal/util/Preconditions" "SIOOBE_FORMATTER" "Ljava/util/function/BiFunction;")) := by decide +kernel
theorem pp_all : (List.range 12).all (fun i => PPs.any (fun q => Nat.beq q.1 i)) = true := by decide +kernel
theorem pp_ne : (List.range 12).all (fun i => (List.range 12).all (fun j => Nat.beq i j || (PPs.any (fun q => Nat.beq q.1 j && q.2.any (fun p => Nat.beq p i)) || PPs.any (fun q => Nat.beq q.1 i && q.2.any (fun p => Nat.beq p j))))) = true := by decide +kernel
theorem nw_in {q : Nat × List Nat} (hq : q ∈ PPs) {w : Cond} (hw : w ∈ blkE q) : w ∈ nw1 := by
  have h : w ∈ nw1.drop 35 := by
    rw [nw_E]
    exact List.mem_flatMap.mpr ⟨q, hq, hw⟩
  exact List.mem_of_mem_drop h
theorem nw_blk {i : Nat} (hi : i < 12) : ∃ l, (i, l) ∈ PPs := by
  have h := List.all_eq_true.mp pp_all i (List.mem_range.mpr hi)
  obtain ⟨⟨a, l⟩, hq, h2⟩ := List.any_eq_true.mp h
  have : a = i := beq_of h2
  subst this
  exact ⟨l, hq⟩
theorem nw_ex {i : Nat} (hi : i < 12) : Cond.exactly (ktm i) "java/lang/String" ∈ nw1 ∧ Cond.eq (.field (ktm i) "java/lang/String" "coder" "B") (.int 0) ∈ nw1 ∧ Cond.arrayOf (kfl i) .byte ∈ nw1 ∧ Cond.eq (.length (kfl i)) (.int (Int32.ofNat (lenT.getD i 0))) ∈ nw1 := by
  obtain ⟨l, hl⟩ := nw_blk hi
  refine ⟨nw_in hl List.mem_cons_self, nw_in hl (List.mem_cons_of_mem _ List.mem_cons_self), nw_in hl (List.mem_cons_of_mem _ (List.mem_cons_of_mem _ List.mem_cons_self)), nw_in hl (List.mem_cons_of_mem _ (List.mem_cons_of_mem _ (List.mem_cons_of_mem _ List.mem_cons_self)))⟩
theorem nw_el {i j : Nat} (hi : i < 12) (hj : j < lenT.getD i 0) : Cond.eq (.elem (kfl i) (.int (Int32.ofNat j))) (.int ((bytT.getD i []).getD j 0)) ∈ nw1 := by
  obtain ⟨l, hl⟩ := nw_blk hi
  refine nw_in hl (List.mem_cons_of_mem _ (List.mem_cons_of_mem _ (List.mem_cons_of_mem _ (List.mem_cons_of_mem _ (List.mem_append.mpr (Or.inl ?_))))))
  exact List.mem_map.mpr ⟨j, List.mem_range.mpr hj, rfl⟩
theorem nw_no {q : Nat × List Nat} (hq : q ∈ PPs) {p : Nat} (hp : p ∈ q.2) : Cond.not (Cond.eq (ktm p) (ktm q.1)) ∈ nw1 :=
  nw_in hq (List.mem_cons_of_mem _ (List.mem_cons_of_mem _ (List.mem_cons_of_mem _ (List.mem_cons_of_mem _ (List.mem_append.mpr (Or.inr (List.mem_map.mpr ⟨p, hp, rfl⟩)))))))
theorem nw_any {i j : Nat} (h : PPs.any (fun q => Nat.beq q.1 j && q.2.any (fun p => Nat.beq p i)) = true) : Cond.not (Cond.eq (ktm i) (ktm j)) ∈ nw1 := by
  obtain ⟨⟨a, l⟩, hq, h2⟩ := List.any_eq_true.mp h
  rw [Bool.and_eq_true] at h2
  obtain ⟨p, hp, h3⟩ := List.any_eq_true.mp h2.2
  have e1 : a = j := beq_of h2.1
  have e2 : p = i := beq_of h3
  subst e1; subst e2
  exact nw_no hq hp
theorem lkS_all : lkS.all (fun q => decide (rnm q.1 = "AgingPortrait$Reader" ∧ q.2.1 = kix q.2.2.1 ∧ q.2.2.1 < 12) && decide (tbw q.2.2.2 = some (Cond.stringRef "AgingPortrait$Reader" (kix q.2.2.1) (sTx q.2.2.1)))) = true := by decide +kernel
theorem law_X {L : Nat} {xs : Nat → Int32} (hgv : (Jvm.Cond.and given_1 narrow_1).before #[Value.ref b] s = true) (hts : ∀ w ∈ lw_tbl, w.before #[Value.ref b] s = true) (hX : va_X b L xs s s.heap) (hbl : b < s.heap.size) (hL : L ≤ 3072) : ∃ X : AdX, X.2.2.1 = b ∧ STR (fun q => s.heap.size ≤ q) X L xs s := by
  have hs : ∀ w ∈ nw1, w.before #[Value.ref b] s = true := flat_of_before _ hgv
  have e1 : ∀ i, i < 12 → (Cond.exactly (ktm i) "java/lang/String").before #[Value.ref b] s = true ∧ (Cond.eq (.field (ktm i) "java/lang/String" "coder" "B") (.int 0)).before #[Value.ref b] s = true ∧ (Cond.arrayOf (kfl i) .byte).before #[Value.ref b] s = true ∧ (Cond.eq (.length (kfl i)) (.int (Int32.ofNat (lenT.getD i 0)))).before #[Value.ref b] s = true := by
    intro i hi
    obtain ⟨h1, h2, h3, h4⟩ := nw_ex hi
    exact ⟨hs _ h1, hs _ h2, hs _ h3, hs _ h4⟩
  have hN : ∀ i : Nat, i < 12 → lenT.getD i 0 < 2 ^ 31 := by
    intro i hi
    rw [lenT_at hi]
    have h1 := List.all_eq_true.mp strb_all i (List.mem_range.mpr hi)
    rw [Bool.and_eq_true] at h1
    have := of_decide_eq_true h1.2
    omega
  have hA : ∀ a : Nat, a < s.heap.size → ¬ (fun q : Nat => s.heap.size ≤ q) a := fun a h => Nat.not_le.mpr h
  obtain ⟨adK, adV, hS, hev⟩ := vk_Sof (tm := ktm) (len := lenT) (byt := bytT) hN (fun i hi => (e1 i hi).1) (fun i hi => (e1 i hi).2.1) (fun i hi => (e1 i hi).2.2.1) (fun i hi => (e1 i hi).2.2.2) (fun i hi j hj => hs _ (nw_el hi hj)) (fun i j hi hj hij => by
    have h := List.all_eq_true.mp (List.all_eq_true.mp pp_ne i (List.mem_range.mpr hi)) j (List.mem_range.mpr hj)
    simp only [Bool.or_eq_true] at h
    rcases h with h | h | h
    · exact absurd (beq_of h) hij
    · exact Or.inl (hs _ (nw_any h))
    · exact Or.inr (hs _ (nw_any h))) hA
  have hst : _ ∧ _ := ⟨List.mem_of_getElem? nw_s4, List.mem_of_getElem? nw_s5⟩
  obtain ⟨v, hv, hvr⟩ := Cond.isRef_spec (hs _ hst.2)
  obtain ⟨o, ho⟩ : ∃ o : Option Nat, v = va_rf o := by
    cases v with
    | null => exact ⟨none, rfl⟩
    | ref a => exact ⟨some a, rfl⟩
    | _ => exact absurd hvr (by simp [Value.isRef])
  subst ho
  refine ⟨(adK, adV, b, o), rfl, hS, fun q hq => ?_, va_Zof (hts _ laC_) (hts _ inC_) (va_eqt (hs _ hst.1)) hA, va_Zof (hts _ laP_) (hts _ inP_) hv hA, hX, hbl, hA b hbl, hL, hts _ aoS, hts _ aoT, fun w idx y hw => va_Nw.of rfl (hts _ hw)⟩
  have h := List.all_eq_true.mp lkS_all q hq
  simp only [Bool.and_eq_true, decide_eq_true_eq] at h
  obtain ⟨⟨h1, h2, h3⟩, h4⟩ := h
  rw [h1, h2]
  exact vk_R.of (hts _ (tbw_mem h4)) (hev _ h3)
end START
