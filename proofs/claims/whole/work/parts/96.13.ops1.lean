/-! SOUNDNESS, 2: an instruction that goes on (own work) -/
/-- where the next instruction stands -/
def npc (pc : Nat) (i : Ins) : Nat := bif Nat.beq i.1 15 then i.2.2.1 else pc + (raw pc i).2
theorem beq_of {a b : Nat} (h : Nat.beq a b = true) : a = b := Nat.eq_of_beq_eq_true h
theorem lkF_word {w ci k : Nat} {x : Int} (h : (lkF w).any (fun q => Nat.beq q.1 x.toNat && (Nat.beq q.2.1 ci && Nat.beq q.2.2.1 k)) = true) : Cond.fieldLink (rnm w) x.toNat (tnm ci k).1 (tnm ci k).2.1 (tnm ci k).2.2.1 ∈ TB := by
  obtain ⟨⟨q1, q2, q3, q4⟩, hq, h⟩ := List.any_eq_true.mp h
  simp only [Bool.and_eq_true] at h
  obtain ⟨h1, h3, h4⟩ := h
  have h1 : q1 = x.toNat := beq_of h1
  have h3 : q2 = ci := beq_of h3
  have h4 : q3 = k := beq_of h4
  subst h1; subst h3; subst h4
  exact tbg (of_decide_eq_true (List.all_eq_true.mp (lkF_ok w) _ hq)) rfl
theorem lkI_word {w b : Nat} {x : Int} (h : lkI.any (fun q => Nat.beq q.1 w && (Nat.beq q.2.1 b && decide (q.2.2.1 = x))) = true) : Cond.constant (rnm w) b (Int32.ofInt x) ∈ TB := by
  obtain ⟨⟨q1, q2, q3, q4⟩, hq, h⟩ := List.any_eq_true.mp h
  simp only [Bool.and_eq_true, decide_eq_true_eq] at h
  obtain ⟨h1, h2, h3⟩ := h
  obtain rfl := beq_of h1; obtain rfl := beq_of h2; subst h3
  exact tbg (of_decide_eq_true (List.all_eq_true.mp lkI_ok _ hq)) rfl
theorem lkJ_word {w b : Nat} {x : Int} (h : lkJ.any (fun q => Nat.beq q.1 w && (Nat.beq q.2.1 b && decide (q.2.2.1 = x))) = true) : Cond.constantLong (rnm w) b (Int64.ofInt x) ∈ TB := by
  obtain ⟨⟨q1, q2, q3, q4⟩, hq, h⟩ := List.any_eq_true.mp h
  simp only [Bool.and_eq_true, decide_eq_true_eq] at h
  obtain ⟨h1, h2, h3⟩ := h
  obtain rfl := beq_of h1; obtain rfl := beq_of h2; subst h3
  exact tbg (of_decide_eq_true (List.all_eq_true.mp lkJ_ok _ hq)) rfl
theorem lkC_word {w ci : Nat} {x : Int} (h : lkC.any (fun q => Nat.beq q.1 w && (decide ((q.2.1 : Int) = x) && Nat.beq q.2.2.1 ci)) = true) : Cond.classLink (rnm w) x.toNat (bif Nat.beq ci 103 then RX7 else bif Nat.beq ci 104 then RX10 else rnm ci) ∈ TB := by
  obtain ⟨⟨q1, q2, q3, q4⟩, hq, h⟩ := List.any_eq_true.mp h
  simp only [Bool.and_eq_true, decide_eq_true_eq] at h
  obtain ⟨h1, h2, h3⟩ := h
  obtain rfl := beq_of h1; obtain rfl := beq_of h3
  have h5 := of_decide_eq_true (List.all_eq_true.mp lkC_ok _ hq)
  rw [← h2]
  exact tbg h5 (by first | rfl | (cases Nat.beq q3 35 <;> rfl))
theorem lkO_word {w : Nat} {x : Int} (h : lkO.any (fun q => Nat.beq q.1 w && decide ((q.2.1 : Int) = x)) = true) : Cond.methodLink (rnm w) x.toNat objectInit ∈ TB := by
  obtain ⟨⟨q1, q2, q3⟩, hq, h⟩ := List.any_eq_true.mp h
  simp only [Bool.and_eq_true, decide_eq_true_eq] at h
  obtain ⟨h1, h2⟩ := h
  obtain rfl := beq_of h1
  rw [← h2]
  exact tbg (of_decide_eq_true (List.all_eq_true.mp lkO_ok _ hq)) rfl
theorem lkA_word {w : Nat} {x : Int} (h : lkA.any (fun q => Nat.beq q.1 w && decide ((q.2.1 : Int) = x)) = true) : Cond.methodLink (rnm w) x.toNat arraycopyName ∈ TB := by
  obtain ⟨⟨q1, q2, q3⟩, hq, h⟩ := List.any_eq_true.mp h
  simp only [Bool.and_eq_true, decide_eq_true_eq] at h
  obtain ⟨h1, h2⟩ := h
  obtain rfl := beq_of h1
  rw [← h2]
  exact tbg (of_decide_eq_true (List.all_eq_true.mp lkA_ok _ hq)) rfl
theorem lkV_word {w k : Nat} {x : Int} (h : lkV.any (fun q => Nat.beq q.1 w && (decide ((q.2.1 : Int) = x) && Nat.beq q.2.2.1 k)) = true) : Cond.fieldLink (rnm w) x.toNat "java/lang/String" (bif Nat.beq k 31 then "value" else "coder") (bif Nat.beq k 31 then "[B" else "B") ∈ TB := by
  obtain ⟨⟨q1, q2, q3, q4⟩, hq, h⟩ := List.any_eq_true.mp h
  simp only [Bool.and_eq_true, decide_eq_true_eq] at h
  obtain ⟨h1, h2, h3⟩ := h
  obtain rfl := beq_of h1; obtain rfl := beq_of h3
  have h5 := of_decide_eq_true (List.all_eq_true.mp lkV_ok _ hq)
  rw [← h2]
  exact tbg h5 (by first | rfl | (cases Nat.beq q3 35 <;> rfl))
theorem lkX_word {w k : Nat} {x : Int} (h : lkX.any (fun q => Nat.beq q.1 w && (decide ((q.2.1 : Int) = x) && Nat.beq q.2.2.1 k)) = true) : Cond.methodLink (rnm w) x.toNat (mnm k) ∈ TB := by
  obtain ⟨⟨q1, q2, q3, q4⟩, hq, h⟩ := List.any_eq_true.mp h
  simp only [Bool.and_eq_true, decide_eq_true_eq] at h
  obtain ⟨h1, h2, h3⟩ := h
  obtain rfl := beq_of h1; obtain rfl := beq_of h3
  have h5 := of_decide_eq_true (List.all_eq_true.mp lkX_ok _ hq)
  rw [← h2]
  exact tbg h5 rfl
theorem lkG_word {w k : Nat} {x : Int} (h : lkG.any (fun q => Nat.beq q.1 w && (decide ((q.2.1 : Int) = x) && Nat.beq q.2.2.1 k)) = true) : (bif Nat.beq k 35 then Cond.fieldLink (rnm w) x.toNat "java/lang/String" "COMPACT_STRINGS" "Z" else Cond.fieldLink (rnm w) x.toNat "jdk/internal/util/Preconditions" "SIOOBE_FORMATTER" "Ljava/util/function/BiFunction;") ∈ TB := by
  obtain ⟨⟨q1, q2, q3, q4⟩, hq, h⟩ := List.any_eq_true.mp h
  simp only [Bool.and_eq_true, decide_eq_true_eq] at h
  obtain ⟨h1, h2, h3⟩ := h
  obtain rfl := beq_of h1; obtain rfl := beq_of h3
  have h5 := of_decide_eq_true (List.all_eq_true.mp lkG_ok _ hq)
  rw [← h2]
  exact tbg h5 (by first | rfl | (cases Nat.beq q3 35 <;> rfl))
theorem lkS_mem {w b a : Nat} (h : lkS.any (fun q => Nat.beq q.1 w && (Nat.beq q.2.1 b && Nat.beq q.2.2.1 a)) = true) : ∃ z, (w, b, a, z) ∈ lkS := by
  obtain ⟨⟨q1, q2, q3, q4⟩, hq, h⟩ := List.any_eq_true.mp h
  simp only [Bool.and_eq_true] at h
  obtain ⟨h1, h2, h3⟩ := h
  obtain rfl := beq_of h1; obtain rfl := beq_of h2; obtain rfl := beq_of h3
  exact ⟨_, hq⟩
theorem CLS.nam {ci k : Nat} {q : vw_C} {ty : Nat → FieldType} (h : CLS ci q ty) : tnm ci k = q.2.1 k := by
  unfold tnm
  rw [h.1]
  rfl
theorem CLS.fin {ci k : Nat} {q : vw_C} {ty : Nat → FieldType} (h : CLS ci q ty) (hk : (ftb ci).getD k 9 ≠ 9) : k < q.2.2 := by
  rw [h.2.2.2.2.2.1]
  by_cases z : k < (ftb ci).length
  · exact z
  · exact absurd (by rw [List.getD_eq_getElem?_getD, List.getElem?_eq_none (by omega)]; rfl) hk
theorem flds_at {ad : Nat → Nat} {X : AdX} {ci b : Nat} {g : Int → Int} {fin : List Int} (hb : b < (ftb ci).length) : (flds ad X ci g fin)[b]? = some (fvl ad X ((ftb ci).getD b 9) (g (Int.ofNat b)) (fin.getD b 0)) := by
  unfold flds
  rw [List.getElem?_map, List.getElem?_range hb]
  rfl
theorem flds_set {ad : Nat → Nat} {X : AdX} {ci b : Nat} {g g' : Int → Int} {fin : List Int} {v : Value} (hb : b < (ftb ci).length) (hv : v = fvl ad X ((ftb ci).getD b 9) (g' (Int.ofNat b)) (fin.getD b 0)) (ho : ∀ j : Nat, j ≠ b → g' (Int.ofNat j) = g (Int.ofNat j)) : (flds ad X ci g fin).set b v = flds ad X ci g' fin := by
  apply List.ext_getElem?
  intro j
  have hl : (flds ad X ci g fin).length = (ftb ci).length := by simp [flds]
  by_cases hj : b = j
  · subst hj
    rw [List.getElem?_set_self (by rw [hl]; exact hb), flds_at hb, hv]
  · rw [List.getElem?_set_ne hj]
    by_cases h2 : j < (ftb ci).length
    · rw [flds_at h2, flds_at h2, ho j (fun z => hj z.symm)]
    · rw [List.getElem?_eq_none (by rw [hl]; omega), List.getElem?_eq_none (by simp [flds]; omega)]
theorem up_self {c : Nat → Int → Int} {k : Nat} {i v j : Int} : up c k i v k j = if j = i then v else c k j := by unfold up; rw [if_pos rfl]
theorem up_nes {c : Nat → Int → Int} {k a : Nat} {i v : Int} (h : a ≠ k) : up c k i v a = c a := by
  funext j
  unfold up
  rw [if_neg h]
theorem uz_nes {c : Nat → Int → Int} {k a : Nat} (h : a ≠ k) : uz c k a = c a := by
  funext j
  unfold uz
  rw [if_neg h]
theorem uz_self {c : Nat → Int → Int} {k : Nat} {j : Int} : uz c k k j = 0 := by unfold uz; rw [if_pos rfl]
theorem cpy_ne {c : Nat → Int → Int} {k d a : Nat} {sp dp z : Int} (h : a ≠ d) : cpy c k sp d dp z a = c a := by
  funext j
  unfold cpy
  rw [if_neg h]
theorem mok_one {L : List Shp} {c c' : Nat → Int → Int} {k : Nat} {sh : Shp} (hm : mok L c) (hk : L[k]? = some sh) (ho : ∀ a, a ≠ k → c' a = c a) (h : cok L.length sh (c' k)) : mok L c' := by
  intro a s' ha
  by_cases q : a = k
  · subst q
    rw [hk] at ha
    cases ha
    exact h
  · rw [ho a q]
    exact hm a s' ha
theorem SCR.keep {n : Nat} {xs : Nat → Int32} {c c' : Nat → Int → Int} (h : SCR n xs c) (h0 : c' 1000000 = c 1000000) (h1 : c' 1000001 = c 1000001) : SCR n xs c' := by
  refine ⟨by rw [h1]; exact h.1, fun j hj => by rw [h0]; exact h.2 j hj⟩
theorem cok_up {N : Nat} {sh : Shp} {g g' : Int → Int} (h : cok N sh g) (h0 : sh.1 = 0 ∨ sh.1 = 2 → ∀ j, In32 (g' j)) (h1 : sh.1 = 1 → ∀ j, In64 (g' j)) (h3 : sh.1 = 3 ∨ sh.1 = 4 → ∀ j, 0 ≤ g' j ∧ g' j ≤ (N : Int)) (h5 : ¬ sh.1 ≤ 4 → ∀ j : Nat, ((ftb (sh.1 - 10)).getD j 9 = 1 → In64 (g' j)) ∧ ((ftb (sh.1 - 10)).getD j 9 ≠ 1 → In32 (g' j))) : cok N sh g' :=
  ⟨h.1, h0, h1, h3, fun q => ⟨(h.2.2.2.2 q).1, (h.2.2.2.2 q).2.1, (h.2.2.2.2 q).2.2.1, (h.2.2.2.2 q).2.2.2.1, h5 q⟩⟩
theorem cok_f {N k : Nat} {sh : Shp} {g : Int → Int} (h : cok N sh g) (hk : 10 ≤ sh.1) : (∀ x ∈ sh.2.2, x ≤ (N : Int)) ∧ ((ftb (sh.1 - 10)).getD k 9 = 1 → In64 (g (Int.ofNat k))) ∧ ((ftb (sh.1 - 10)).getD k 9 ≠ 1 → In32 (g (Int.ofNat k))) := by
  obtain ⟨-, -, g3, g4, g5⟩ := h.2.2.2.2 (by omega)
  exact ⟨g4, g5 k⟩
section OPS
variable {p : Program} {l : Launch} {e : Env} {R : Room} {s : State} {m : MethodId} {args : Array Value} {below : List Frame} {meth : Method} {c0 : Code} {Q : State → Prop} {f : Nat} {A : Nat → Prop} {D : va_G} {cA : Nat → ClassId} {X : AdX} {n : Nat} {xs : Nat → Int32} {ad0 : Nat → Nat} {n0 z0 : Nat}
variable {ls st ls' st' : List V} {L : List Shp} {c : Nat → Int → Int} {M' : Mem} {pc a b : Nat} {x : Int}
theorem SR.upd {ad : Nat → Nat} {H H' : Heap} {locs locs' : List Loc} {lsM : Array Slot} {c' : Nat → Int → Int} {k : Nat} {sh : Shp} {e0 : va_E} (S : SR f A s D cA X n xs ad0 n0 z0 ad ls st L c H locs lsM) (hL : L.length ≤ 1000000) (hk : L[k]? = some sh) (ho : ∀ a, a ≠ k → c' a = c a) (hc : cok L.length sh (c' k)) (he : e0 = ent ad X cA sh (c' k)) (hP : va_P D vwCl ((wsl ad X cA L c).set k (ad k, e0)) H') (hD : va_D A ((wsl ad X cA L c).set k (ad k, e0))) (hS : va_S A s.heap H' locs') (h : ∀ v ∈ st', vok L.length v) : SR f A s D cA X n xs ad0 n0 z0 ad ls st' L c' H' locs' lsM := by
  have hkl : k < L.length := (List.getElem?_eq_some_iff.mp hk).1
  have e : (wsl ad X cA L c).set k (ad k, e0) = wsl ad X cA L c' := wsl_set rfl hk (fun _ _ => rfl) ho he
  rw [e] at hP hD
  exact S.mem rfl rfl hP hD hS (mok_one S.2.2.2.1 hk ho hc) (S.2.2.2.2.1.keep (ho _ (by omega)) (ho _ (by omega))) h
theorem tyI_ne {y : Int} : tyV (vI y) ≠ 3 := by show (0 : Nat) ≠ 3; decide
theorem tyL_ne {y : Int} : tyV (vL y) ≠ 3 := by show (1 : Nat) ≠ 3; decide
theorem tyR_ne {y : Int} : tyV (vR y) ≠ 3 := by show (2 : Nat) ≠ 3; decide
theorem vokI {N : Nat} {x : Int} (h : In32 x) : vok N (vI x) := h
theorem vokL {N : Nat} {x : Int} (h : In64 x) : vok N (vL x) := h
theorem vok_cons {N : Nat} {v : V} {t : List V} (h1 : vok N v) (h2 : ∀ w ∈ t, vok N w) : ∀ w ∈ v :: t, vok N w := fun w hw => by
  rcases List.mem_cons.mp hw with q | q
  · rw [q]; exact h1
  · exact h2 w q
theorem vok_tl {N : Nat} {v : V} {t : List V} (h : ∀ w ∈ v :: t, vok N w) : ∀ w ∈ t, vok N w := fun w hw => h w (List.mem_cons_of_mem _ hw)
theorem vok_hd {N : Nat} {v : V} {t : List V} (h : ∀ w ∈ v :: t, vok N w) : vok N v := h v List.mem_cons_self
theorem W_top {H : Heap} {locs : List Loc} {cells slots : Nat} {lsM : Array Slot} {v v' : Value} {rest : List Value} (h : v = v') (K : W p l e R s m args below meth c0 H locs cells slots Q (F0 m pc lsM (v :: rest))) : W p l e R s m args below meth c0 H locs cells slots Q (F0 m pc lsM (v' :: rest)) := h ▸ K
theorem SR.sto {ad : Nat → Nat} {H : Heap} {locs : List Loc} {lsM lsM' : Array Slot} {v : V} (S : SR f A s D cA X n xs ad0 n0 z0 ad ls st L c H locs lsM) (hlr : LRl (inf f).1 ad X (sto ls a b v) lsM') (hv : vok L.length v) (h : ∀ v ∈ st', vok L.length v) : SR f A s D cA X n xs ad0 n0 z0 ad (sto ls a b v) st' L c H locs lsM' :=
  ⟨S.1, S.2.1, S.2.2.1, S.2.2.2.1, S.2.2.2.2.1, S.2.2.2.2.2.1, hlr, sto_ok S.lsv hv, h⟩
theorem one1_cat {ad : Nat → Nat} {v : V} (h : one1 v = true) : tyV v ≠ 3 ∧ (mv ad X v).category = 1 := by
  have h3 : tyV v = 0 ∨ tyV v = 2 := by
    unfold one1 at h
    rcases Bool.or_eq_true _ _ |>.mp h with q | q
    · exact Or.inl (beq_of q)
    · exact Or.inr (beq_of q)
  have h4 : tyV v ≠ 3 := by omega
  refine ⟨h4, ?_⟩
  rw [mv_cat h4, if_neg (by omega)]
theorem getD_le {N b : Nat} {l : List Int} (h : ∀ x ∈ l, x ≤ (N : Int)) : l.getD b 0 ≤ (N : Int) := by
  rw [List.getD_eq_getElem?_getD]
  cases hq : l[b]? with
  | none => show (0 : Int) ≤ N; omega
  | some y => exact h y (List.mem_of_getElem? hq)
theorem getD_zero (b j : Nat) : (List.replicate b (0 : Int)).getD j 0 = 0 := by
  rw [List.getD_eq_getElem?_getD]
  cases hq : (List.replicate b (0 : Int))[j]? with
  | none => rfl
  | some y => exact List.eq_of_mem_replicate (List.mem_of_getElem? hq)
theorem tyk_inv0 {ty : FieldType} {fin : Bool} (h : tyk 0 ty fin = true) : ty = .int ∧ fin = false := by
  unfold tyk at h
  split at h <;> simp_all
theorem tyk_inv1 {ty : FieldType} {fin : Bool} (h : tyk 1 ty fin = true) : ty = .long ∧ fin = false := by
  unfold tyk at h
  split at h <;> simp_all
theorem tyk_inv2 {ty : FieldType} {fin : Bool} (h : tyk 2 ty fin = true) : ty = .boolean ∧ fin = false := by
  unfold tyk at h
  split at h <;> simp_all
theorem tyk_inv3 {ty : FieldType} {fin : Bool} (h : tyk 3 ty fin = true) : (∀ a : Nat, narrow ty (.ref a) = .ref a ∧ fits ty (.ref a) = true) ∧ fin = true := by
  unfold tyk at h
  split at h
  · simp_all
  · simp_all
  · simp_all
  · exact ⟨fun a => ⟨rfl, rfl⟩, h⟩
  · exact ⟨fun a => ⟨rfl, rfl⟩, h⟩
  · simp_all
theorem tyk_zero {t : Nat} {ty : FieldType} {fin : Bool} {ad : Nat → Nat} {x r : Int} (h : tyk t ty fin = true) (hx : x = 0) (hr : r = 0) : defaultValue ty = ((some (fvl ad X t x r)).getD .null) := by
  subst hx; subst hr
  unfold tyk at h
  split at h <;> first | rfl | simp_all
theorem cok_fld {N k : Nat} {sh : Shp} {ty : Nat} {y : Int} (hc : cok N sh (c k)) (h1 : sh.1 = 10 + a) (hty : (ftb a).getD b 9 = ty) (hy : if ty = 1 then In64 y else In32 y) : cok N sh (up c k (Int.ofNat b) y k) := by
  refine cok_up hc (fun q => by omega) (fun q => by omega) (fun q => by omega) (fun q j => ?_)
  obtain ⟨-, -, -, -, g5⟩ := hc.2.2.2.2 q
  rw [up_self]
  rw [h1, Nat.add_sub_cancel_left] at g5 ⊢
  by_cases hj : (j : Int) = Int.ofNat b
  · have hj2 : j = b := Int.ofNat.inj hj
    rw [if_pos hj, hj2, hty]
    refine ⟨fun q => ?_, fun q => ?_⟩
    · rw [if_pos q] at hy; exact hy
    · rw [if_neg q] at hy; exact hy
  · rw [if_neg hj]
    exact g5 j
theorem cok_arr02 {N k : Nat} {sh : Shp} {j y : Int} (hc : cok N sh (c k)) (h1 : sh.1 = 0 ∨ sh.1 = 2) (hy : In32 y) : cok N sh (up c k j y k) := by
  refine cok_up hc (fun q i => ?_) (fun q => by omega) (fun q => by omega) (fun q => by omega)
  rw [up_self]
  split
  · exact hy
  · exact hc.2.1 q i
theorem cok_arr1 {N k : Nat} {sh : Shp} {j y : Int} (hc : cok N sh (c k)) (h1 : sh.1 = 1) (hy : In64 y) : cok N sh (up c k j y k) := by
  refine cok_up hc (fun q => by omega) (fun q i => ?_) (fun q => by omega) (fun q => by omega)
  rw [up_self]
  split
  · exact hy
  · exact hc.2.2.1 q i
theorem cok_arr34 {N k : Nat} {sh : Shp} {j y : Int} (hc : cok N sh (c k)) (h1 : sh.1 = 3 ∨ sh.1 = 4) (hy0 : 0 ≤ y) (hy : y ≤ (N : Int)) : cok N sh (up c k j y k) := by
  refine cok_up hc (fun q => by omega) (fun q => by omega) (fun q i => ?_) (fun q => by omega)
  rw [up_self]
  split
  · exact ⟨hy0, hy⟩
  · exact hc.2.2.2.1 q i
theorem cok_cpy {N k k2 : Nat} {sh sh2 : Shp} {sp dp z : Int} (hc : cok N sh (c k)) (hc2 : cok N sh2 (c k2)) (h1 : sh.1 = 0) (h2 : sh2.1 = 0) : cok N sh2 (cpy c k sp k2 dp z k2) := by
  refine cok_up hc2 (fun q i => ?_) (fun q => by omega) (fun q => by omega) (fun q => by omega)
  unfold cpy
  rw [if_pos rfl]
  split
  · exact hc.2.1 (Or.inl h1) _
  · exact hc2.2.1 q i
theorem cok_new {q : vw_C} {ty : Nat → FieldType} {N k : Nat} (hC : CLS a q ty) (hb : b = (ftb a).length) : cok N (10 + a, (b : Int), List.replicate b 0) (uz c k k) := by
  have ha : a ≤ 12 := by
    have h := (List.getElem?_eq_some_iff.mp hC.1).1
    simpa using Nat.le_of_lt_succ h
  refine ⟨fun q => by have q : 10 + a ≤ 4 := q; omega, fun q => by have q : 10 + a = 0 ∨ 10 + a = 2 := q; omega, fun q => by have q : 10 + a = 1 := q; omega, fun q => by have q : 10 + a = 3 ∨ 10 + a = 4 := q; omega, fun _ => ⟨by show 10 ≤ 10 + a; omega, by show 10 + a ≤ 22; omega, ?_, ?_, ?_⟩⟩
  · show (List.replicate b (0 : Int)).length = (ftb (10 + a - 10)).length
    rw [List.length_replicate, Nat.add_sub_cancel_left, hb]
  · intro x hx
    rw [List.eq_of_mem_replicate hx]
    omega
  · intro j
    rw [uz_self]
    exact ⟨fun _ => in64_0, fun _ => in32_0⟩
theorem cok_newa {N k kd : Nat} {z : Int} (h : kd ≤ 4) (hz : 0 ≤ z ∧ z ≤ 60000000) : cok N (kd, z, []) (uz c k k) := by
  refine ⟨fun _ => hz, fun _ j => ?_, fun _ j => ?_, fun _ j => ?_, fun q => absurd h q⟩
  · rw [uz_self]; exact in32_0
  · rw [uz_self]; exact in64_0
  · rw [uz_self]; omega
theorem SR.push {ad : Nat → Nat} {H H1 : Heap} {locs : List Loc} {lsM : Array Slot} {c' : Nat → Int → Int} {q : Nat} {s' : Shp} (S : SR f A s D cA X n xs ad0 n0 z0 ad ls st L c H locs lsM) (hP1 : va_P D vwCl (wsl (adp ad L.length q) X cA (L ++ [s']) c') H1) (hD1 : va_D A (wsl (adp ad L.length q) X cA (L ++ [s']) c')) (hS1 : va_S A s.heap H1 locs) (hc : ∀ j, j ≠ L.length → c' j = c j) (hco : cok (L ++ [s']).length s' (c' L.length)) (hL : L.length + 1 ≤ 1000000) : SR f A s D cA X n xs ad0 n0 z0 (adp ad L.length q) ls (vR ((L.length : Int) + 1) :: st) (L ++ [s']) c' H1 locs lsM := by
  obtain ⟨hP, hD, hS, hm, hsc, ⟨e1, e2, e3⟩, hlr, hls, hst⟩ := S
  have el : (L ++ [s']).length = L.length + 1 := by simp
  refine ⟨hP1, hD1, hS1, ?_, hsc.keep (hc _ (by omega)) (hc _ (by omega)), ⟨by omega, by rw [slz_app]; omega, fun k hk => ?_⟩, ?_, fun v hv => vok_mono (by omega) (hls v hv), ?_⟩
  · intro j sj hj
    rcases Nat.lt_trichotomy j L.length with q1 | q1 | q1
    · rw [List.getElem?_append_left q1] at hj
      rw [hc j (by omega)]
      exact cok_mono (by omega) (hm j sj hj)
    · subst q1
      rw [List.getElem?_append_right (Nat.le_refl _), Nat.sub_self] at hj
      cases hj
      exact hco
    · rw [List.getElem?_eq_none (by omega)] at hj
      cases hj
  · rw [adp_lt (by omega)]
    exact e3 k hk
  · refine ⟨hlr.1, hlr.2.1, hlr.2.2.1, fun i v hv ht => ?_⟩
    rw [mv_keep (fun k hk => adp_lt hk) (hls v (List.mem_of_getElem? hv))]
    exact hlr.2.2.2 i v hv ht
  · intro v hv
    rcases List.mem_cons.mp hv with q1 | q1
    · rw [q1]
      show ((L.length : Int) + 1) ≤ ((L ++ [s']).length : Int)
      rw [el]
      omega
    · exact vok_mono (by omega) (hst v q1)
theorem catS_le {ad : Nat → Nat} : ∀ t : List V, ((t.map (mv ad X)).map fun v => v.category).sum ≤ catS t
  | [] => Nat.le_refl _
  | v :: t => by
    have ih := catS_le (ad := ad) t
    show (mv ad X v).category + ((t.map (mv ad X)).map fun v => v.category).sum ≤ (bif Nat.beq (tyV v) 1 then 2 else 1) + catS t
    have h1 : (mv ad X v).category ≤ (bif Nat.beq (tyV v) 1 then 2 else 1) := by
      rcases v with x | x | r | u
      · exact Nat.le_refl _
      · exact Nat.le_refl _
      · show (va_rf (rof ad X r)).category ≤ 1
        cases rof ad X r <;> exact Nat.le_refl _
      · exact Nat.le_refl _
    omega
theorem strOf_inv {r : Int} {g : Nat} (h : strOf r = some g) : r = -100 - (g : Int) ∧ g < 12 := by
  rcases r with k | k
  · exact absurd h (by simp [strOf])
  · have h : (bif Nat.ble 99 k && Nat.ble k 110 then some (k - 99) else none) = some g := h
    obtain ⟨h1, h2⟩ := bif_inv h
    rw [Bool.and_eq_true] at h1
    have a1 := Nat.le_of_ble_eq_true h1.1
    have a2 := Nat.le_of_ble_eq_true h1.2
    have h2 : k - 99 = g := Option.some.inj h2
    refine ⟨?_, by omega⟩
    rw [Int.negSucc_eq]
    omega
theorem bytOf_inv {r : Int} {g : Nat} (h : bytOf r = some g) : r = -200 - (g : Int) ∧ g < 12 := by
  rcases r with k | k
  · exact absurd h (by simp [bytOf])
  · have h : (bif Nat.ble 199 k && Nat.ble k 210 then some (k - 199) else none) = some g := h
    obtain ⟨h1, h2⟩ := bif_inv h
    rw [Bool.and_eq_true] at h1
    have a1 := Nat.le_of_ble_eq_true h1.1
    have a2 := Nat.le_of_ble_eq_true h1.2
    have h2 : k - 199 = g := Option.some.inj h2
    refine ⟨?_, by omega⟩
    rw [Int.negSucc_eq]
    omega
theorem lt12 {g : Nat} (h : g < 12) : g = 0 ∨ g = 1 ∨ g = 2 ∨ g = 3 ∨ g = 4 ∨ g = 5 ∨ g = 6 ∨ g = 7 ∨ g = 8 ∨ g = 9 ∨ g = 10 ∨ g = 11 := by omega
theorem mv_str {ad : Nat → Nat} {g : Nat} (h : g < 12) : mv ad X (vR (-100 - (g : Int))) = .ref (X.1 g) := by
  rcases lt12 h with q | q | q | q | q | q | q | q | q | q | q | q <;> subst q <;> rfl
theorem mv_byt {ad : Nat → Nat} {g : Nat} (h : g < 12) : mv ad X (vR (-100 - (g : Int) - 100)) = .ref (X.2.1 g) := by
  rcases lt12 h with q | q | q | q | q | q | q | q | q | q | q | q <;> subst q <;> rfl
theorem mv_byt2 {ad : Nat → Nat} {g : Nat} (h : g < 12) : mv ad X (vR (-200 - (g : Int))) = .ref (X.2.1 g) := by
  rcases lt12 h with q | q | q | q | q | q | q | q | q | q | q | q <;> subst q <;> rfl
theorem W_stk_str {ad : Nat → Nat} {g : Nat} {t : List V} (h : g < 12) : (vR (-100 - (g : Int)) :: t).map (mv ad X) = .ref (X.1 g) :: t.map (mv ad X) := by rw [List.map_cons, mv_str h]
theorem W_stk_byt1 {ad : Nat → Nat} {g : Nat} {t : List V} (h : g < 12) : (vR (-200 - (g : Int)) :: t).map (mv ad X) = .ref (X.2.1 g) :: t.map (mv ad X) := by rw [List.map_cons, mv_byt2 h]
theorem W_stk_byt2 {ad : Nat → Nat} {g : Nat} {j : Int} {t : List V} (h : g < 12) : (vI j :: vR (-200 - (g : Int)) :: t).map (mv ad X) = .int (Int32.ofInt j) :: .ref (X.2.1 g) :: t.map (mv ad X) := by rw [List.map_cons, List.map_cons, mv_byt2 h]; rfl
theorem lenT_at {g : Nat} (h : g < 12) : lenT.getD g 0 = (strb g).length := by
  rcases lt12 h with q | q | q | q | q | q | q | q | q | q | q | q <;> subst q <;> rfl
theorem bytT_at0 : (List.range 12).all (fun g => decide (bytT.getD g [] = (strb g).map Int32.ofInt)) = true := by decide +kernel
theorem bytT_at {g k : Nat} (h : g < 12) : Value.int ((bytT.getD g []).getD k 0) = Value.int (Int32.ofInt ((strb g).getD k 0)) := by
  have h1 := of_decide_eq_true (List.all_eq_true.mp bytT_at0 g (List.mem_range.mpr h))
  rw [h1]
  congr 1
  rw [List.getD_eq_getElem?_getD, List.getD_eq_getElem?_getD, List.getElem?_map]
  cases (strb g)[k]? with
  | none => exact o32_0.symm
  | some y => rfl
theorem strb_all : (List.range 12).all (fun g => (strb g).all (fun y => decide (0 ≤ y ∧ y < 128)) && decide ((strb g).length < 100)) = true := by decide +kernel
theorem strb_in {N g k : Nat} (h : g < 12) : vok N (vI ((strb g).getD k 0)) := by
  have h1 := List.all_eq_true.mp strb_all g (List.mem_range.mpr h)
  rw [Bool.and_eq_true] at h1
  rw [List.getD_eq_getElem?_getD]
  cases hq : (strb g)[k]? with
  | none => exact in32_0
  | some y =>
    have h2 : 0 ≤ y ∧ y < 128 := of_decide_eq_true (List.all_eq_true.mp h1.1 y (List.mem_of_getElem? hq))
    exact ⟨by show -2147483648 ≤ y; omega, by show y < 2147483648; omega⟩
theorem strb_len {N g : Nat} (h : g < 12) : vok N (vI ((strb g).length : Int)) := by
  have h1 := List.all_eq_true.mp strb_all g (List.mem_range.mpr h)
  rw [Bool.and_eq_true] at h1
  have h2 := of_decide_eq_true h1.2
  exact ⟨by show -2147483648 ≤ ((strb g).length : Int); omega, by show ((strb g).length : Int) < 2147483648; omega⟩
theorem lkS_lt : lkS.all (fun q => decide (q.2.2.1 < 12)) = true := by decide +kernel
theorem va_AO_of {C : String} (h : (Cond.arrayOver (.object C)).before args s = true) : va_AO C s := h
theorem g_0 (C : CX p s m args meth c0 f A D cA X n xs) (hRf : 1 ≤ R.frames) (hRl : 100 ≤ R.locals) (hd : decode (mtbs f).1 pc = .ok (raw pc (0, a, b, x))) (hl : lnk (mtbs f).2.2.2.2 (mtbs f).2.2.1 (mtbs f).2.1.name (0, a, b, x) = true) (hs : oks (inf f).1 (0, a, b, x) = true) (h0 : act (0, a, b, x) ls st (L, c) = some (.inl (ls', st', M'))) (hL : M'.1.length ≤ 1000000) (hRc : M'.1.length - n0 ≤ R.cells) (hRs : slz M'.1 - z0 ≤ R.slots) (hk : WS p l e R s m args below meth c0 Q f A D cA X n xs ad0 n0 z0 (npc pc (0, a, b, x)) ls' st' M'.1 M'.2) : WS p l e R s m args below meth c0 Q f A D cA X n xs ad0 n0 z0 pc ls st L c := by
  intro ad H locs lsM S
  obtain ⟨hx, hb, hml, hown, hts, hK, hST, hA, hr, hlk, hnm⟩ := C
  have h : (some (.inl (ls, vI x :: st, (L, c))) : Act) = some (.inl (ls', st', M')) := h0
  cases h
  rcases a with _ | _ | _ | _ | a
  · have hr : In32 x := of_decide_eq_true (p := -2147483648 ≤ x ∧ x < 2147483648) hs
    exact lv_iconst hx hb hd rfl (hk ad H locs lsM (S.stk (vok_cons hr S.stv)))
  · have hr : -128 ≤ x ∧ x < 128 := of_decide_eq_true hs
    have hr2 : In32 x := ⟨by omega, by omega⟩
    have e8 : (Int8.ofInt x).toInt32 = Int32.ofInt x := by rw [← Int32.toInt_inj, Int8.toInt_toInt32, t32 hr2, Int8.toInt_ofInt_of_le (by omega) (by omega)]
    exact lv_bipush (v := Int32.ofInt x) hx hb hd e8 (hk ad H locs lsM (S.stk (vok_cons hr2 S.stv)))
  · have hr : -32768 ≤ x ∧ x < 32768 := of_decide_eq_true hs
    have hr2 : In32 x := ⟨by omega, by omega⟩
    have e8 : (Int16.ofInt x).toInt32 = Int32.ofInt x := by rw [← Int32.toInt_inj, Int16.toInt_toInt32, t32 hr2, Int16.toInt_ofInt_of_le (by omega) (by omega)]
    exact lv_sipush (v := Int32.ofInt x) hx hb hd e8 (hk ad H locs lsM (S.stk (vok_cons hr2 S.stv)))
  · have hr : In32 x := of_decide_eq_true (p := -2147483648 ≤ x ∧ x < 2147483648) hs
    exact lv_ldc hx hb hown (hts _ (lkI_word hl)) hd (hk ad H locs lsM (S.stk (vok_cons hr S.stv)))
  · have hr : In32 x := of_decide_eq_true (p := -2147483648 ≤ x ∧ x < 2147483648) hs
    exact lv_ldcw hx hb hown (hts _ (lkI_word hl)) hd (hk ad H locs lsM (S.stk (vok_cons hr S.stv)))
theorem g_1 (C : CX p s m args meth c0 f A D cA X n xs) (hRf : 1 ≤ R.frames) (hRl : 100 ≤ R.locals) (hd : decode (mtbs f).1 pc = .ok (raw pc (1, a, b, x))) (hl : lnk (mtbs f).2.2.2.2 (mtbs f).2.2.1 (mtbs f).2.1.name (1, a, b, x) = true) (hs : oks (inf f).1 (1, a, b, x) = true) (h0 : act (1, a, b, x) ls st (L, c) = some (.inl (ls', st', M'))) (hL : M'.1.length ≤ 1000000) (hRc : M'.1.length - n0 ≤ R.cells) (hRs : slz M'.1 - z0 ≤ R.slots) (hk : WS p l e R s m args below meth c0 Q f A D cA X n xs ad0 n0 z0 (npc pc (1, a, b, x)) ls' st' M'.1 M'.2) : WS p l e R s m args below meth c0 Q f A D cA X n xs ad0 n0 z0 pc ls st L c := by
  intro ad H locs lsM S
  obtain ⟨hx, hb, hml, hown, hts, hK, hST, hA, hr, hlk, hnm⟩ := C
  have h : (some (.inl (ls, vL x :: st, (L, c))) : Act) = some (.inl (ls', st', M')) := h0
  cases h
  have hr : In64 x := of_decide_eq_true (p := -9223372036854775808 ≤ x ∧ x < 9223372036854775808) hs
  rcases a with _ | _ | a
  · have hl : ((true && (decide (x = 0) || decide (x = 1))) || (false && lkJ.any (fun q => Nat.beq q.1 (mtbs f).2.2.2.2 && (Nat.beq q.2.1 b && decide (q.2.2.1 = x))))) = true := hl
    simp only [Bool.true_and, Bool.false_and, Bool.or_false, Bool.or_eq_true, decide_eq_true_eq] at hl
    rcases hl with q | q
    · subst q
      exact lv_lconst (n := 0) (v := Int64.ofInt 0) hx hb hd (by decide) (hk ad H locs lsM (S.stk (vok_cons hr S.stv)))
    · subst q
      exact lv_lconst (n := 1) (v := Int64.ofInt 1) hx hb hd (by decide) (hk ad H locs lsM (S.stk (vok_cons hr S.stv)))
  · have hl : ((false && (decide (x = 0) || decide (x = 1))) || (true && lkJ.any (fun q => Nat.beq q.1 (mtbs f).2.2.2.2 && (Nat.beq q.2.1 b && decide (q.2.2.1 = x))))) = true := hl
    simp only [Bool.true_and, Bool.false_and, Bool.false_or] at hl
    exact lv_ldc2 hx hb hown (hts _ (lkJ_word hl)) hd (hk ad H locs lsM (S.stk (vok_cons hr S.stv)))
  · have hl : ((false && (decide (x = 0) || decide (x = 1))) || (false && lkJ.any (fun q => Nat.beq q.1 (mtbs f).2.2.2.2 && (Nat.beq q.2.1 b && decide (q.2.2.1 = x))))) = true := hl
    simp at hl
theorem g_2 (C : CX p s m args meth c0 f A D cA X n xs) (hRf : 1 ≤ R.frames) (hRl : 100 ≤ R.locals) (hd : decode (mtbs f).1 pc = .ok (raw pc (2, a, b, x))) (hl : lnk (mtbs f).2.2.2.2 (mtbs f).2.2.1 (mtbs f).2.1.name (2, a, b, x) = true) (hs : oks (inf f).1 (2, a, b, x) = true) (h0 : act (2, a, b, x) ls st (L, c) = some (.inl (ls', st', M'))) (hL : M'.1.length ≤ 1000000) (hRc : M'.1.length - n0 ≤ R.cells) (hRs : slz M'.1 - z0 ≤ R.slots) (hk : WS p l e R s m args below meth c0 Q f A D cA X n xs ad0 n0 z0 (npc pc (2, a, b, x)) ls' st' M'.1 M'.2) : WS p l e R s m args below meth c0 Q f A D cA X n xs ad0 n0 z0 pc ls st L c := by
  intro ad H locs lsM S
  obtain ⟨hx, hb, hml, hown, hts, hK, hST, hA, hr, hlk, hnm⟩ := C
  have h : (some (.inl (ls, vR 0 :: st, (L, c))) : Act) = some (.inl (ls', st', M')) := h0
  cases h
  exact lv_null hx hb hd (hk ad H locs lsM (S.stk (vok_cons (show (0 : Int) ≤ (L.length : Int) by omega) S.stv)))
theorem g_3 (C : CX p s m args meth c0 f A D cA X n xs) (hRf : 1 ≤ R.frames) (hRl : 100 ≤ R.locals) (hd : decode (mtbs f).1 pc = .ok (raw pc (3, a, b, x))) (hl : lnk (mtbs f).2.2.2.2 (mtbs f).2.2.1 (mtbs f).2.1.name (3, a, b, x) = true) (hs : oks (inf f).1 (3, a, b, x) = true) (h0 : act (3, a, b, x) ls st (L, c) = some (.inl (ls', st', M'))) (hL : M'.1.length ≤ 1000000) (hRc : M'.1.length - n0 ≤ R.cells) (hRs : slz M'.1 - z0 ≤ R.slots) (hk : WS p l e R s m args below meth c0 Q f A D cA X n xs ad0 n0 z0 (npc pc (3, a, b, x)) ls' st' M'.1 M'.2) : WS p l e R s m args below meth c0 Q f A D cA X n xs ad0 n0 z0 pc ls st L c := by
  intro ad H locs lsM S
  obtain ⟨hx, hb, hml, hown, hts, hK, hST, hA, hr, hlk, hnm⟩ := C
  have h9 := el_inv (show (ls[a]?).elim none (fun v => bif Nat.beq (tyV v) b then (some (.inl (ls, v :: st, (L, c))) : Act) else none) = some (.inl (ls', st', M')) from h0)
  clear h0
  obtain ⟨v, hv, h⟩ := h9
  have h9 := bif_inv h
  clear h
  obtain ⟨ht, h⟩ := h9
  have ht := beq_of ht
  have hb2 : b ≤ 2 := Nat.le_of_ble_eq_true hl
  have h : (some (.inl (ls, v :: st, (L, c))) : Act) = some (.inl (ls', st', M')) := h
  cases h
  have hloc := S.lr.2.2.2 a v hv (by omega)
  have K := hk ad H locs lsM (S.stk (vok_cons (S.lsv v (List.mem_of_getElem? hv)) S.stv))
  subst ht
  rcases v with y | y | r | u
  · rcases a with _ | _ | _ | _ | a
    · exact lv_iload_n (k := 0) hx hb hd rfl hloc K
    · exact lv_iload_n (k := 1) hx hb hd rfl hloc K
    · exact lv_iload_n (k := 2) hx hb hd rfl hloc K
    · exact lv_iload_n (k := 3) hx hb hd rfl hloc K
    · exact lv_iload hx hb hd hloc K
  · rcases a with _ | _ | _ | _ | a
    · exact lv_lload_n (k := 0) hx hb hd rfl hloc K
    · exact lv_lload_n (k := 1) hx hb hd rfl hloc K
    · exact lv_lload_n (k := 2) hx hb hd rfl hloc K
    · exact lv_lload_n (k := 3) hx hb hd rfl hloc K
    · exact lv_lload hx hb hd hloc K
  · have hloc : lsM[a]? = some (.val (va_rf (rof ad X r))) := hloc
    have K : W p l e R s m args below meth c0 H locs (L.length - n0) (slz L - z0) Q (F0 m (npc pc (3, a, 2, x)) lsM (va_rf (rof ad X r) :: st.map (mv ad X))) := K
    generalize rof ad X r = o at hloc K
    cases o with
    | none =>
      rcases a with _ | _ | _ | _ | a
      · exact lv_aload_nN (k := 0) hx hb hd rfl hloc K
      · exact lv_aload_nN (k := 1) hx hb hd rfl hloc K
      · exact lv_aload_nN (k := 2) hx hb hd rfl hloc K
      · exact lv_aload_nN (k := 3) hx hb hd rfl hloc K
      · exact lv_aloadN hx hb hd hloc K
    | some q =>
      rcases a with _ | _ | _ | _ | a
      · exact lv_aload_n (k := 0) hx hb hd rfl hloc K
      · exact lv_aload_n (k := 1) hx hb hd rfl hloc K
      · exact lv_aload_n (k := 2) hx hb hd rfl hloc K
      · exact lv_aload_n (k := 3) hx hb hd rfl hloc K
      · exact lv_aload hx hb hd hloc K
  · exact absurd hb2 (by show ¬ 3 ≤ 2; omega)
theorem g_4 (C : CX p s m args meth c0 f A D cA X n xs) (hRf : 1 ≤ R.frames) (hRl : 100 ≤ R.locals) (hd : decode (mtbs f).1 pc = .ok (raw pc (4, a, b, x))) (hl : lnk (mtbs f).2.2.2.2 (mtbs f).2.2.1 (mtbs f).2.1.name (4, a, b, x) = true) (hs : oks (inf f).1 (4, a, b, x) = true) (h0 : act (4, a, b, x) ls st (L, c) = some (.inl (ls', st', M'))) (hL : M'.1.length ≤ 1000000) (hRc : M'.1.length - n0 ≤ R.cells) (hRs : slz M'.1 - z0 ≤ R.slots) (hk : WS p l e R s m args below meth c0 Q f A D cA X n xs ad0 n0 z0 (npc pc (4, a, b, x)) ls' st' M'.1 M'.2) : WS p l e R s m args below meth c0 Q f A D cA X n xs ad0 n0 z0 pc ls st L c := by
  intro ad H locs lsM S
  obtain ⟨hx, hb, hml, hown, hts, hK, hST, hA, hr, hlk, hnm⟩ := C
  have h9 := pV_inv h0
  clear h0
  obtain ⟨v, t, rfl, h⟩ := h9
  have h9 := bif_inv h
  clear h
  obtain ⟨ht, h⟩ := h9
  have ht := beq_of ht
  have hb2 : b ≤ 2 := Nat.le_of_ble_eq_true hl
  have h : (some (.inl (sto ls a b v, t, (L, c))) : Act) = some (.inl (ls', st', M')) := h
  cases h
  have hsp : a + 1 + (bif Nat.beq b 1 then 1 else 0) ≤ (inf f).1 := Nat.le_of_ble_eq_true hs
  have hhas := S.lr.has
  have hvo := vok_hd S.stv
  have hto := vok_tl S.stv
  subst ht
  rcases v with y | y | r | u
  · have hsp : a + 1 + 0 ≤ (inf f).1 := hsp
    rcases a with _ | _ | _ | _ | a
    · exact lv_istore_n (k := 0) hx hb hd rfl hhas (by omega) rfl (fun lsM2 h2 => hk ad H locs lsM2 (S.sto (S.lr.sto1 rfl tyI_ne (by omega) h2) hvo hto))
    · exact lv_istore_n (k := 1) hx hb hd rfl hhas (by omega) rfl (fun lsM2 h2 => hk ad H locs lsM2 (S.sto (S.lr.sto1 rfl tyI_ne (by omega) h2) hvo hto))
    · exact lv_istore_n (k := 2) hx hb hd rfl hhas (by omega) rfl (fun lsM2 h2 => hk ad H locs lsM2 (S.sto (S.lr.sto1 rfl tyI_ne (by omega) h2) hvo hto))
    · exact lv_istore_n (k := 3) hx hb hd rfl hhas (by omega) rfl (fun lsM2 h2 => hk ad H locs lsM2 (S.sto (S.lr.sto1 rfl tyI_ne (by omega) h2) hvo hto))
    · exact lv_istore (i := a + 4) hx hb hd hhas (by omega) rfl (fun lsM2 h2 => hk ad H locs lsM2 (S.sto (S.lr.sto1 rfl tyI_ne (by omega) h2) hvo hto))
  · have hsp : a + 1 + 1 ≤ (inf f).1 := hsp
    rcases a with _ | _ | _ | _ | a
    · exact lv_lstore_n (k := 0) hx hb hd rfl hhas (by omega) rfl (fun lsM2 h2 => hk ad H locs lsM2 (S.sto (S.lr.sto2 rfl tyL_ne (by omega) h2) hvo hto))
    · exact lv_lstore_n (k := 1) hx hb hd rfl hhas (by omega) rfl (fun lsM2 h2 => hk ad H locs lsM2 (S.sto (S.lr.sto2 rfl tyL_ne (by omega) h2) hvo hto))
    · exact lv_lstore_n (k := 2) hx hb hd rfl hhas (by omega) rfl (fun lsM2 h2 => hk ad H locs lsM2 (S.sto (S.lr.sto2 rfl tyL_ne (by omega) h2) hvo hto))
    · exact lv_lstore_n (k := 3) hx hb hd rfl hhas (by omega) rfl (fun lsM2 h2 => hk ad H locs lsM2 (S.sto (S.lr.sto2 rfl tyL_ne (by omega) h2) hvo hto))
    · exact lv_lstore (i := a + 4) hx hb hd hhas (by omega) rfl (fun lsM2 h2 => hk ad H locs lsM2 (S.sto (S.lr.sto2 rfl tyL_ne (by omega) h2) hvo hto))
  · have hsp : a + 1 + 0 ≤ (inf f).1 := hsp
    have key : ∀ lsM2, lv_has lsM2 (inf f).1 ((a, va_rf (rof ad X r)) :: (prs ad X ls).filter (fun q => !(q.1 == a) && !(q.1 + 1 == a && q.2.category == 2))) → W p l e R s m args below meth c0 H locs (L.length - n0) (slz L - z0) Q (F0 m (npc pc (4, a, 2, x)) lsM2 (st'.map (mv ad X))) := fun lsM2 h2 => hk ad H locs lsM2 (S.sto (S.lr.sto1 rfl tyR_ne (by omega) h2) hvo hto)
    show W p l e R s m args below meth c0 H locs (L.length - n0) (slz L - z0) Q (F0 m pc lsM (va_rf (rof ad X r) :: st'.map (mv ad X)))
    generalize rof ad X r = o at key
    cases o with
    | none =>
      rcases a with _ | _ | _ | _ | a
      · exact lv_astore_nN (k := 0) hx hb hd rfl hhas (by omega) rfl key
      · exact lv_astore_nN (k := 1) hx hb hd rfl hhas (by omega) rfl key
      · exact lv_astore_nN (k := 2) hx hb hd rfl hhas (by omega) rfl key
      · exact lv_astore_nN (k := 3) hx hb hd rfl hhas (by omega) rfl key
      · exact lv_astoreN (i := a + 4) hx hb hd hhas (by omega) rfl key
    | some q =>
      rcases a with _ | _ | _ | _ | a
      · exact lv_astore_n (k := 0) hx hb hd rfl hhas (by omega) rfl key
      · exact lv_astore_n (k := 1) hx hb hd rfl hhas (by omega) rfl key
      · exact lv_astore_n (k := 2) hx hb hd rfl hhas (by omega) rfl key
      · exact lv_astore_n (k := 3) hx hb hd rfl hhas (by omega) rfl key
      · exact lv_astore (i := a + 4) hx hb hd hhas (by omega) rfl key
  · exact absurd hb2 (by show ¬ 3 ≤ 2; omega)
theorem g_5 (C : CX p s m args meth c0 f A D cA X n xs) (hRf : 1 ≤ R.frames) (hRl : 100 ≤ R.locals) (hd : decode (mtbs f).1 pc = .ok (raw pc (5, a, b, x))) (hl : lnk (mtbs f).2.2.2.2 (mtbs f).2.2.1 (mtbs f).2.1.name (5, a, b, x) = true) (hs : oks (inf f).1 (5, a, b, x) = true) (h0 : act (5, a, b, x) ls st (L, c) = some (.inl (ls', st', M'))) (hL : M'.1.length ≤ 1000000) (hRc : M'.1.length - n0 ≤ R.cells) (hRs : slz M'.1 - z0 ≤ R.slots) (hk : WS p l e R s m args below meth c0 Q f A D cA X n xs ad0 n0 z0 (npc pc (5, a, b, x)) ls' st' M'.1 M'.2) : WS p l e R s m args below meth c0 Q f A D cA X n xs ad0 n0 z0 pc ls st L c := by
  intro ad H locs lsM S
  obtain ⟨hx, hb, hml, hown, hts, hK, hST, hA, hr, hlk, hnm⟩ := C
  have h9 := pI_inv h0
  clear h0
  obtain ⟨y, t, hdr, h⟩ := h9
  have h : (some (.inl (sto ls a 0 (vI (w32 (y + x))), st, (L, c))) : Act) = some (.inl (ls', st', M')) := h
  cases h
  have hsp : a + 1 ≤ (inf f).1 := Nat.le_of_ble_eq_true hs
  have hv : ls[a]? = some (vI y) := by
    have h1 : (ls.drop a)[0]? = some (vI y) := by rw [hdr]; rfl
    rw [List.getElem?_drop] at h1
    simpa using h1
  obtain ⟨kp, hkp⟩ := List.getElem?_of_mem (prs_mem (ad := ad) (X := X) hv tyI_ne)
  exact lv_iinc (i := a) (n := x) hx hb hd S.lr.has hkp (o32_add y x).symm (by omega) rfl (fun lsM2 h2 => hk ad H locs lsM2 (S.sto (S.lr.sto1 rfl tyI_ne (by omega) h2) (in32_w _) S.stv))
theorem g_6 (C : CX p s m args meth c0 f A D cA X n xs) (hRf : 1 ≤ R.frames) (hRl : 100 ≤ R.locals) (hd : decode (mtbs f).1 pc = .ok (raw pc (6, a, b, x))) (hl : lnk (mtbs f).2.2.2.2 (mtbs f).2.2.1 (mtbs f).2.1.name (6, a, b, x) = true) (hs : oks (inf f).1 (6, a, b, x) = true) (h0 : act (6, a, b, x) ls st (L, c) = some (.inl (ls', st', M'))) (hL : M'.1.length ≤ 1000000) (hRc : M'.1.length - n0 ≤ R.cells) (hRs : slz M'.1 - z0 ≤ R.slots) (hk : WS p l e R s m args below meth c0 Q f A D cA X n xs ad0 n0 z0 (npc pc (6, a, b, x)) ls' st' M'.1 M'.2) : WS p l e R s m args below meth c0 Q f A D cA X n xs ad0 n0 z0 pc ls st L c := by
  intro ad H locs lsM S
  obtain ⟨hx, hb, hml, hown, hts, hK, hST, hA, hr, hlk, hnm⟩ := C
  have h9 := pI_inv h0
  clear h0
  obtain ⟨y, t, rfl, h⟩ := h9
  have h9 := pI_inv h
  clear h
  obtain ⟨z, t, rfl, h⟩ := h9
  have h : (some (.inl (ls, vI (ibin a z y) :: t, (L, c))) : Act) = some (.inl (ls', st', M')) := h
  cases h
  have hy : In32 y := vok_hd S.stv
  have hz : In32 z := vok_hd (vok_tl S.stv)
  have K := hk ad H locs lsM (S.stk (vok_cons (o32_ibin a z y) (vok_tl (vok_tl S.stv))))
  rcases a with _ | _ | _ | _ | _ | _ | _ | _ | a
  · exact lv_iadd hx hb hd (W_top (congrArg Value.int (o32_add z y)) K)
  · exact lv_isub hx hb hd (W_top (congrArg Value.int (o32_sub z y)) K)
  · exact lv_imul hx hb hd (W_top (congrArg Value.int (o32_mul z y)) K)
  · exact lv_iand hx hb hd (W_top (congrArg Value.int (Int32.ofInt_toInt _)) K)
  · exact lv_ior hx hb hd (W_top (congrArg Value.int (Int32.ofInt_toInt _)) K)
  · exact lv_ixor hx hb hd (W_top (congrArg Value.int (Int32.ofInt_toInt _)) K)
  · exact lv_ishl hx hb hd (W_top (congrArg Value.int (Int32.ofInt_toInt _)) K)
  · exact lv_ishr hx hb hd (W_top (congrArg Value.int (Int32.ofInt_toInt _)) K)
  · exact lv_iushr hx hb hd (Int32.ofInt_toInt _).symm K
theorem g_7 (C : CX p s m args meth c0 f A D cA X n xs) (hRf : 1 ≤ R.frames) (hRl : 100 ≤ R.locals) (hd : decode (mtbs f).1 pc = .ok (raw pc (7, a, b, x))) (hl : lnk (mtbs f).2.2.2.2 (mtbs f).2.2.1 (mtbs f).2.1.name (7, a, b, x) = true) (hs : oks (inf f).1 (7, a, b, x) = true) (h0 : act (7, a, b, x) ls st (L, c) = some (.inl (ls', st', M'))) (hL : M'.1.length ≤ 1000000) (hRc : M'.1.length - n0 ≤ R.cells) (hRs : slz M'.1 - z0 ≤ R.slots) (hk : WS p l e R s m args below meth c0 Q f A D cA X n xs ad0 n0 z0 (npc pc (7, a, b, x)) ls' st' M'.1 M'.2) : WS p l e R s m args below meth c0 Q f A D cA X n xs ad0 n0 z0 pc ls st L c := by
  intro ad H locs lsM S
  obtain ⟨hx, hb, hml, hown, hts, hK, hST, hA, hr, hlk, hnm⟩ := C
  have h9 := pI_inv h0
  clear h0
  obtain ⟨y, t, rfl, h⟩ := h9
  have h : (some (.inl (ls, vI (w32 (-y)) :: t, (L, c))) : Act) = some (.inl (ls', st', M')) := h
  cases h
  exact lv_ineg hx hb hd (W_top (congrArg Value.int (o32_neg y)) (hk ad H locs lsM (S.stk (vok_cons (in32_w _) (vok_tl S.stv)))))
theorem g_8 (C : CX p s m args meth c0 f A D cA X n xs) (hRf : 1 ≤ R.frames) (hRl : 100 ≤ R.locals) (hd : decode (mtbs f).1 pc = .ok (raw pc (8, a, b, x))) (hl : lnk (mtbs f).2.2.2.2 (mtbs f).2.2.1 (mtbs f).2.1.name (8, a, b, x) = true) (hs : oks (inf f).1 (8, a, b, x) = true) (h0 : act (8, a, b, x) ls st (L, c) = some (.inl (ls', st', M'))) (hL : M'.1.length ≤ 1000000) (hRc : M'.1.length - n0 ≤ R.cells) (hRs : slz M'.1 - z0 ≤ R.slots) (hk : WS p l e R s m args below meth c0 Q f A D cA X n xs ad0 n0 z0 (npc pc (8, a, b, x)) ls' st' M'.1 M'.2) : WS p l e R s m args below meth c0 Q f A D cA X n xs ad0 n0 z0 pc ls st L c := by
  intro ad H locs lsM S
  obtain ⟨hx, hb, hml, hown, hts, hK, hST, hA, hr, hlk, hnm⟩ := C
  have h9 := pL_inv h0
  clear h0
  obtain ⟨y, t, rfl, h⟩ := h9
  have h9 := pL_inv h
  clear h
  obtain ⟨z, t, rfl, h⟩ := h9
  have h : (some (.inl (ls, vL (lbin a z y) :: t, (L, c))) : Act) = some (.inl (ls', st', M')) := h
  cases h
  have K := hk ad H locs lsM (S.stk (vok_cons (o64_lbin a z y) (vok_tl (vok_tl S.stv))))
  rcases a with _ | _ | a
  · exact lv_ladd hx hb hd (W_top (congrArg Value.long (o64_add z y)) K)
  · exact lv_lsub hx hb hd (W_top (congrArg Value.long (o64_sub z y)) K)
  · exact lv_lmul hx hb hd (W_top (congrArg Value.long (o64_mul z y)) K)
theorem g_9 (C : CX p s m args meth c0 f A D cA X n xs) (hRf : 1 ≤ R.frames) (hRl : 100 ≤ R.locals) (hd : decode (mtbs f).1 pc = .ok (raw pc (9, a, b, x))) (hl : lnk (mtbs f).2.2.2.2 (mtbs f).2.2.1 (mtbs f).2.1.name (9, a, b, x) = true) (hs : oks (inf f).1 (9, a, b, x) = true) (h0 : act (9, a, b, x) ls st (L, c) = some (.inl (ls', st', M'))) (hL : M'.1.length ≤ 1000000) (hRc : M'.1.length - n0 ≤ R.cells) (hRs : slz M'.1 - z0 ≤ R.slots) (hk : WS p l e R s m args below meth c0 Q f A D cA X n xs ad0 n0 z0 (npc pc (9, a, b, x)) ls' st' M'.1 M'.2) : WS p l e R s m args below meth c0 Q f A D cA X n xs ad0 n0 z0 pc ls st L c := by
  intro ad H locs lsM S
  obtain ⟨hx, hb, hml, hown, hts, hK, hST, hA, hr, hlk, hnm⟩ := C
  have h9 := pL_inv h0
  clear h0
  obtain ⟨y, t, rfl, h⟩ := h9
  have h9 := pL_inv h
  clear h
  obtain ⟨z, t, rfl, h⟩ := h9
  have hy : In64 y := vok_hd S.stv
  have hz : In64 z := vok_hd (vok_tl S.stv)
  have h : (if z < y then (some (.inl (ls, vI (-1) :: t, (L, c))) : Act) else if z = y then some (.inl (ls, vI 0 :: t, (L, c))) else some (.inl (ls, vI 1 :: t, (L, c)))) = some (.inl (ls', st', M')) := h
  refine W.lcmp hx hb hd ?_
  by_cases h1 : z < y
  · rw [if_pos h1] at h
    cases h
    refine W_top (congrArg Value.int ?_) (hk ad H locs lsM (S.stk (vok_cons (show In32 (-1) by unfold In32; omega) (vok_tl (vok_tl S.stv)))))
    unfold lg_cmp
    rw [if_neg (show ¬ (Int64.ofInt z > Int64.ofInt y) from fun q => by have := (o64_lt hy hz).mp q; omega), if_neg (fun q => by have := (o64_inj hz hy).mp q; omega)]
    decide
  · rw [if_neg h1] at h
    by_cases h2 : z = y
    · rw [if_pos h2] at h
      cases h
      refine W_top (congrArg Value.int ?_) (hk ad H locs lsM (S.stk (vok_cons in32_0 (vok_tl (vok_tl S.stv)))))
      subst h2
      unfold lg_cmp
      rw [if_neg (show ¬ (Int64.ofInt z > Int64.ofInt z) from fun q => by have := (o64_lt hz hz).mp q; omega), if_pos rfl]
      decide
    · rw [if_neg h2] at h
      cases h
      refine W_top (congrArg Value.int ?_) (hk ad H locs lsM (S.stk (vok_cons (show In32 1 by unfold In32; omega) (vok_tl (vok_tl S.stv)))))
      unfold lg_cmp
      rw [if_pos (show Int64.ofInt z > Int64.ofInt y from (o64_lt hy hz).mpr (by omega))]
      decide
theorem g_10 (C : CX p s m args meth c0 f A D cA X n xs) (hRf : 1 ≤ R.frames) (hRl : 100 ≤ R.locals) (hd : decode (mtbs f).1 pc = .ok (raw pc (10, a, b, x))) (hl : lnk (mtbs f).2.2.2.2 (mtbs f).2.2.1 (mtbs f).2.1.name (10, a, b, x) = true) (hs : oks (inf f).1 (10, a, b, x) = true) (h0 : act (10, a, b, x) ls st (L, c) = some (.inl (ls', st', M'))) (hL : M'.1.length ≤ 1000000) (hRc : M'.1.length - n0 ≤ R.cells) (hRs : slz M'.1 - z0 ≤ R.slots) (hk : WS p l e R s m args below meth c0 Q f A D cA X n xs ad0 n0 z0 (npc pc (10, a, b, x)) ls' st' M'.1 M'.2) : WS p l e R s m args below meth c0 Q f A D cA X n xs ad0 n0 z0 pc ls st L c := by
  intro ad H locs lsM S
  obtain ⟨hx, hb, hml, hown, hts, hK, hST, hA, hr, hlk, hnm⟩ := C
  have h9 := pI_inv h0
  clear h0
  obtain ⟨y, t, rfl, h⟩ := h9
  have h : (some (.inl (ls, vL y :: t, (L, c))) : Act) = some (.inl (ls', st', M')) := h
  cases h
  have hy : In32 y := vok_hd S.stv
  have hy2 : In64 y := ⟨by have := hy.1; omega, by have := hy.2; omega⟩
  exact lv_i2l hx hb hd (o32_i2l hy) (hk ad H locs lsM (S.stk (vok_cons hy2 (vok_tl S.stv))))
theorem g_11 (C : CX p s m args meth c0 f A D cA X n xs) (hRf : 1 ≤ R.frames) (hRl : 100 ≤ R.locals) (hd : decode (mtbs f).1 pc = .ok (raw pc (11, a, b, x))) (hl : lnk (mtbs f).2.2.2.2 (mtbs f).2.2.1 (mtbs f).2.1.name (11, a, b, x) = true) (hs : oks (inf f).1 (11, a, b, x) = true) (h0 : act (11, a, b, x) ls st (L, c) = some (.inl (ls', st', M'))) (hL : M'.1.length ≤ 1000000) (hRc : M'.1.length - n0 ≤ R.cells) (hRs : slz M'.1 - z0 ≤ R.slots) (hk : WS p l e R s m args below meth c0 Q f A D cA X n xs ad0 n0 z0 (npc pc (11, a, b, x)) ls' st' M'.1 M'.2) : WS p l e R s m args below meth c0 Q f A D cA X n xs ad0 n0 z0 pc ls st L c := by
  intro ad H locs lsM S
  obtain ⟨hx, hb, hml, hown, hts, hK, hST, hA, hr, hlk, hnm⟩ := C
  have h9 := pV_inv h0
  clear h0
  obtain ⟨v, t, rfl, h⟩ := h9
  have h9 := bif_inv h
  clear h
  obtain ⟨h1, h⟩ := h9
  have h : (some (.inl (ls, v :: v :: t, (L, c))) : Act) = some (.inl (ls', st', M')) := h
  cases h
  exact lv_dup hx hb hd (one1_cat h1).2 (hk ad H locs lsM (S.stk (vok_cons (vok_hd S.stv) S.stv)))
theorem g_15 (C : CX p s m args meth c0 f A D cA X n xs) (hRf : 1 ≤ R.frames) (hRl : 100 ≤ R.locals) (hd : decode (mtbs f).1 pc = .ok (raw pc (15, a, b, x))) (hl : lnk (mtbs f).2.2.2.2 (mtbs f).2.2.1 (mtbs f).2.1.name (15, a, b, x) = true) (hs : oks (inf f).1 (15, a, b, x) = true) (h0 : act (15, a, b, x) ls st (L, c) = some (.inl (ls', st', M'))) (hL : M'.1.length ≤ 1000000) (hRc : M'.1.length - n0 ≤ R.cells) (hRs : slz M'.1 - z0 ≤ R.slots) (hk : WS p l e R s m args below meth c0 Q f A D cA X n xs ad0 n0 z0 (npc pc (15, a, b, x)) ls' st' M'.1 M'.2) : WS p l e R s m args below meth c0 Q f A D cA X n xs ad0 n0 z0 pc ls st L c := by
  intro ad H locs lsM S
  obtain ⟨hx, hb, hml, hown, hts, hK, hST, hA, hr, hlk, hnm⟩ := C
  have h : (some (.inl (ls, st, (L, c))) : Act) = some (.inl (ls', st', M')) := h0
  cases h
  exact lv_goto (tgt := b) (off := (b : Int) - pc) hx hb hd (by omega) (hk ad H locs lsM S)
theorem g_43 (C : CX p s m args meth c0 f A D cA X n xs) (hRf : 1 ≤ R.frames) (hRl : 100 ≤ R.locals) (hd : decode (mtbs f).1 pc = .ok (raw pc (43, a, b, x))) (hl : lnk (mtbs f).2.2.2.2 (mtbs f).2.2.1 (mtbs f).2.1.name (43, a, b, x) = true) (hs : oks (inf f).1 (43, a, b, x) = true) (h0 : act (43, a, b, x) ls st (L, c) = some (.inl (ls', st', M'))) (hL : M'.1.length ≤ 1000000) (hRc : M'.1.length - n0 ≤ R.cells) (hRs : slz M'.1 - z0 ≤ R.slots) (hk : WS p l e R s m args below meth c0 Q f A D cA X n xs ad0 n0 z0 (npc pc (43, a, b, x)) ls' st' M'.1 M'.2) : WS p l e R s m args below meth c0 Q f A D cA X n xs ad0 n0 z0 pc ls st L c := by
  intro ad H locs lsM S
  obtain ⟨hx, hb, hml, hown, hts, hK, hST, hA, hr, hlk, hnm⟩ := C
  have h9 := pI_inv h0
  clear h0
  obtain ⟨y, t, rfl, h⟩ := h9
  have h9 := pI_inv h
  clear h
  obtain ⟨z, t, rfl, h⟩ := h9
  have h9 := ifn_inv h
  clear h
  obtain ⟨hne, h⟩ := h9
  have hy : In32 y := vok_hd S.stv
  have hz : In32 z := vok_hd (vok_tl S.stv)
  have h : (some (.inl (ls, vI (w32 (Int.tdiv z y)) :: t, (L, c))) : Act) = some (.inl (ls', st', M')) := h
  cases h
  exact lv_idiv hx hb hd (fun q => hne ((o32_inj hy in32_0).mp (q.trans o32_0.symm))) (W_top (congrArg Value.int (o32_tdiv hz hy)) (hk ad H locs lsM (S.stk (vok_cons (in32_w _) (vok_tl (vok_tl S.stv))))))
theorem g_44 (C : CX p s m args meth c0 f A D cA X n xs) (hRf : 1 ≤ R.frames) (hRl : 100 ≤ R.locals) (hd : decode (mtbs f).1 pc = .ok (raw pc (44, a, b, x))) (hl : lnk (mtbs f).2.2.2.2 (mtbs f).2.2.1 (mtbs f).2.1.name (44, a, b, x) = true) (hs : oks (inf f).1 (44, a, b, x) = true) (h0 : act (44, a, b, x) ls st (L, c) = some (.inl (ls', st', M'))) (hL : M'.1.length ≤ 1000000) (hRc : M'.1.length - n0 ≤ R.cells) (hRs : slz M'.1 - z0 ≤ R.slots) (hk : WS p l e R s m args below meth c0 Q f A D cA X n xs ad0 n0 z0 (npc pc (44, a, b, x)) ls' st' M'.1 M'.2) : WS p l e R s m args below meth c0 Q f A D cA X n xs ad0 n0 z0 pc ls st L c := by
  intro ad H locs lsM S
  obtain ⟨hx, hb, hml, hown, hts, hK, hST, hA, hr, hlk, hnm⟩ := C
  have h9 := pI_inv h0
  clear h0
  obtain ⟨y, t, rfl, h⟩ := h9
  have h9 := pI_inv h
  clear h
  obtain ⟨z, t, rfl, h⟩ := h9
  have h9 := ifn_inv h
  clear h
  obtain ⟨hne, h⟩ := h9
  have hy : In32 y := vok_hd S.stv
  have hz : In32 z := vok_hd (vok_tl S.stv)
  have h : (some (.inl (ls, vI (w32 (Int.tmod z y)) :: t, (L, c))) : Act) = some (.inl (ls', st', M')) := h
  cases h
  exact lv_irem hx hb hd (fun q => hne ((o32_inj hy in32_0).mp (q.trans o32_0.symm))) (W_top (congrArg Value.int (o32_tmod hz hy)) (hk ad H locs lsM (S.stk (vok_cons (in32_w _) (vok_tl (vok_tl S.stv))))))
theorem g_45 (C : CX p s m args meth c0 f A D cA X n xs) (hRf : 1 ≤ R.frames) (hRl : 100 ≤ R.locals) (hd : decode (mtbs f).1 pc = .ok (raw pc (45, a, b, x))) (hl : lnk (mtbs f).2.2.2.2 (mtbs f).2.2.1 (mtbs f).2.1.name (45, a, b, x) = true) (hs : oks (inf f).1 (45, a, b, x) = true) (h0 : act (45, a, b, x) ls st (L, c) = some (.inl (ls', st', M'))) (hL : M'.1.length ≤ 1000000) (hRc : M'.1.length - n0 ≤ R.cells) (hRs : slz M'.1 - z0 ≤ R.slots) (hk : WS p l e R s m args below meth c0 Q f A D cA X n xs ad0 n0 z0 (npc pc (45, a, b, x)) ls' st' M'.1 M'.2) : WS p l e R s m args below meth c0 Q f A D cA X n xs ad0 n0 z0 pc ls st L c := by
  intro ad H locs lsM S
  obtain ⟨hx, hb, hml, hown, hts, hK, hST, hA, hr, hlk, hnm⟩ := C
  have h9 := pL_inv h0
  clear h0
  obtain ⟨y, t, rfl, h⟩ := h9
  have h9 := pL_inv h
  clear h
  obtain ⟨z, t, rfl, h⟩ := h9
  have h9 := ifn_inv h
  clear h
  obtain ⟨hne, h⟩ := h9
  have hy : In64 y := vok_hd S.stv
  have hz : In64 z := vok_hd (vok_tl S.stv)
  have h : (some (.inl (ls, vL (w64 (Int.tdiv z y)) :: t, (L, c))) : Act) = some (.inl (ls', st', M')) := h
  cases h
  exact lv_ldiv hx hb hd (fun q => hne ((o64_inj hy in64_0).mp (q.trans o64_0.symm))) (W_top (congrArg Value.long (o64_tdiv hz hy)) (hk ad H locs lsM (S.stk (vok_cons (in64_w _) (vok_tl (vok_tl S.stv))))))
theorem g_46 (C : CX p s m args meth c0 f A D cA X n xs) (hRf : 1 ≤ R.frames) (hRl : 100 ≤ R.locals) (hd : decode (mtbs f).1 pc = .ok (raw pc (46, a, b, x))) (hl : lnk (mtbs f).2.2.2.2 (mtbs f).2.2.1 (mtbs f).2.1.name (46, a, b, x) = true) (hs : oks (inf f).1 (46, a, b, x) = true) (h0 : act (46, a, b, x) ls st (L, c) = some (.inl (ls', st', M'))) (hL : M'.1.length ≤ 1000000) (hRc : M'.1.length - n0 ≤ R.cells) (hRs : slz M'.1 - z0 ≤ R.slots) (hk : WS p l e R s m args below meth c0 Q f A D cA X n xs ad0 n0 z0 (npc pc (46, a, b, x)) ls' st' M'.1 M'.2) : WS p l e R s m args below meth c0 Q f A D cA X n xs ad0 n0 z0 pc ls st L c := by
  intro ad H locs lsM S
  obtain ⟨hx, hb, hml, hown, hts, hK, hST, hA, hr, hlk, hnm⟩ := C
  have h9 := pL_inv h0
  clear h0
  obtain ⟨y, t, rfl, h⟩ := h9
  have h9 := pL_inv h
  clear h
  obtain ⟨z, t, rfl, h⟩ := h9
  have h9 := ifn_inv h
  clear h
  obtain ⟨hne, h⟩ := h9
  have hy : In64 y := vok_hd S.stv
  have hz : In64 z := vok_hd (vok_tl S.stv)
  have h : (some (.inl (ls, vL (w64 (Int.tmod z y)) :: t, (L, c))) : Act) = some (.inl (ls', st', M')) := h
  cases h
  exact lv_lrem hx hb hd (fun q => hne ((o64_inj hy in64_0).mp (q.trans o64_0.symm))) (W_top (congrArg Value.long (o64_tmod hz hy)) (hk ad H locs lsM (S.stk (vok_cons (in64_w _) (vok_tl (vok_tl S.stv))))))
theorem g_48 (C : CX p s m args meth c0 f A D cA X n xs) (hRf : 1 ≤ R.frames) (hRl : 100 ≤ R.locals) (hd : decode (mtbs f).1 pc = .ok (raw pc (48, a, b, x))) (hl : lnk (mtbs f).2.2.2.2 (mtbs f).2.2.1 (mtbs f).2.1.name (48, a, b, x) = true) (hs : oks (inf f).1 (48, a, b, x) = true) (h0 : act (48, a, b, x) ls st (L, c) = some (.inl (ls', st', M'))) (hL : M'.1.length ≤ 1000000) (hRc : M'.1.length - n0 ≤ R.cells) (hRs : slz M'.1 - z0 ≤ R.slots) (hk : WS p l e R s m args below meth c0 Q f A D cA X n xs ad0 n0 z0 (npc pc (48, a, b, x)) ls' st' M'.1 M'.2) : WS p l e R s m args below meth c0 Q f A D cA X n xs ad0 n0 z0 pc ls st L c := by
  intro ad H locs lsM S
  obtain ⟨hx, hb, hml, hown, hts, hK, hST, hA, hr, hlk, hnm⟩ := C
  have h9 := pL_inv h0
  clear h0
  obtain ⟨y, t, rfl, h⟩ := h9
  have h : (some (.inl (ls, vI (w32 y) :: t, (L, c))) : Act) = some (.inl (ls', st', M')) := h
  cases h
  exact lv_l2i hx hb hd (o64_l2i (vok_hd S.stv)) (hk ad H locs lsM (S.stk (vok_cons (in32_w _) (vok_tl S.stv))))
theorem g_49 (C : CX p s m args meth c0 f A D cA X n xs) (hRf : 1 ≤ R.frames) (hRl : 100 ≤ R.locals) (hd : decode (mtbs f).1 pc = .ok (raw pc (49, a, b, x))) (hl : lnk (mtbs f).2.2.2.2 (mtbs f).2.2.1 (mtbs f).2.1.name (49, a, b, x) = true) (hs : oks (inf f).1 (49, a, b, x) = true) (h0 : act (49, a, b, x) ls st (L, c) = some (.inl (ls', st', M'))) (hL : M'.1.length ≤ 1000000) (hRc : M'.1.length - n0 ≤ R.cells) (hRs : slz M'.1 - z0 ≤ R.slots) (hk : WS p l e R s m args below meth c0 Q f A D cA X n xs ad0 n0 z0 (npc pc (49, a, b, x)) ls' st' M'.1 M'.2) : WS p l e R s m args below meth c0 Q f A D cA X n xs ad0 n0 z0 pc ls st L c := by
  intro ad H locs lsM S
  obtain ⟨hx, hb, hml, hown, hts, hK, hST, hA, hr, hlk, hnm⟩ := C
  have h9 := pI_inv h0
  clear h0
  obtain ⟨y, t, rfl, h⟩ := h9
  have h9 := if_inv h
  clear h
  obtain ⟨hy, h⟩ := h9
  have h : (some (.inl (ls, vI y :: t, (L, c))) : Act) = some (.inl (ls', st', M')) := h
  cases h
  have hy2 : In32 y := vok_hd S.stv
  refine lv_i2c hx hb hd ?_ (hk ad H locs lsM (S.stk (vok_cons hy2 (vok_tl S.stv))))
  obtain ⟨q, rfl⟩ := Int.eq_ofNat_of_zero_le hy.1
  have hq : q < 65536 := by omega
  rw [o32_nat]
  apply Int32.toInt_inj.mp
  have e1 : (Int32.ofNat q).toInt = (q : Int) := Int32.toInt_ofNat_of_lt (by omega)
  have e2 : (Int32.ofNat q).toUInt32.toNat = q := by
    rw [Int32.toNat_toUInt32_of_le (by rw [Int32.le_iff_toInt_le, e1]; simp), ← Int32.toNat_toInt, e1]
    rfl
  have e3 : ((Int32.ofNat q).toUInt32 % 65536).toNat = q := by
    rw [UInt32.toNat_mod, e2]
    show q % 65536 = q
    omega
  have e4 : ((Int32.ofNat q).toUInt32 % 65536).toInt32 = Int32.ofNat q := by
    rw [← UInt32.ofNat_toNat (x := (Int32.ofNat q).toUInt32 % 65536), e3]
    rfl
  rw [e4]
theorem g_50 (C : CX p s m args meth c0 f A D cA X n xs) (hRf : 1 ≤ R.frames) (hRl : 100 ≤ R.locals) (hd : decode (mtbs f).1 pc = .ok (raw pc (50, a, b, x))) (hl : lnk (mtbs f).2.2.2.2 (mtbs f).2.2.1 (mtbs f).2.1.name (50, a, b, x) = true) (hs : oks (inf f).1 (50, a, b, x) = true) (h0 : act (50, a, b, x) ls st (L, c) = some (.inl (ls', st', M'))) (hL : M'.1.length ≤ 1000000) (hRc : M'.1.length - n0 ≤ R.cells) (hRs : slz M'.1 - z0 ≤ R.slots) (hk : WS p l e R s m args below meth c0 Q f A D cA X n xs ad0 n0 z0 (npc pc (50, a, b, x)) ls' st' M'.1 M'.2) : WS p l e R s m args below meth c0 Q f A D cA X n xs ad0 n0 z0 pc ls st L c := by
  intro ad H locs lsM S
  obtain ⟨hx, hb, hml, hown, hts, hK, hST, hA, hr, hlk, hnm⟩ := C
  have h9 := pV_inv h0
  clear h0
  obtain ⟨v, t, rfl, h⟩ := h9
  have h9 := pV_inv h
  clear h
  obtain ⟨w, t, rfl, h⟩ := h9
  have h9 := bif_inv h
  clear h
  obtain ⟨h1, h⟩ := h9
  rw [Bool.and_eq_true] at h1
  have h : (some (.inl (ls, v :: w :: v :: w :: t, (L, c))) : Act) = some (.inl (ls', st', M')) := h
  cases h
  exact lv_dup2_11 hx hb hd (one1_cat h1.1).2 (one1_cat h1.2).2 (hk ad H locs lsM (S.stk (vok_cons (vok_hd S.stv) (vok_cons (vok_hd (vok_tl S.stv)) S.stv))))
theorem g_51 (C : CX p s m args meth c0 f A D cA X n xs) (hRf : 1 ≤ R.frames) (hRl : 100 ≤ R.locals) (hd : decode (mtbs f).1 pc = .ok (raw pc (51, a, b, x))) (hl : lnk (mtbs f).2.2.2.2 (mtbs f).2.2.1 (mtbs f).2.1.name (51, a, b, x) = true) (hs : oks (inf f).1 (51, a, b, x) = true) (h0 : act (51, a, b, x) ls st (L, c) = some (.inl (ls', st', M'))) (hL : M'.1.length ≤ 1000000) (hRc : M'.1.length - n0 ≤ R.cells) (hRs : slz M'.1 - z0 ≤ R.slots) (hk : WS p l e R s m args below meth c0 Q f A D cA X n xs ad0 n0 z0 (npc pc (51, a, b, x)) ls' st' M'.1 M'.2) : WS p l e R s m args below meth c0 Q f A D cA X n xs ad0 n0 z0 pc ls st L c := by
  intro ad H locs lsM S
  obtain ⟨hx, hb, hml, hown, hts, hK, hST, hA, hr, hlk, hnm⟩ := C
  have h9 := pV_inv h0
  clear h0
  obtain ⟨v, t, rfl, h⟩ := h9
  have h9 := bif_inv h
  clear h
  obtain ⟨h1, h⟩ := h9
  have h : (some (.inl (ls, t, (L, c))) : Act) = some (.inl (ls', st', M')) := h
  cases h
  exact lv_pop hx hb hd (one1_cat h1).2 (hk ad H locs lsM (S.stk (vok_tl S.stv)))
theorem g_62 (C : CX p s m args meth c0 f A D cA X n xs) (hRf : 1 ≤ R.frames) (hRl : 100 ≤ R.locals) (hd : decode (mtbs f).1 pc = .ok (raw pc (62, a, b, x))) (hl : lnk (mtbs f).2.2.2.2 (mtbs f).2.2.1 (mtbs f).2.1.name (62, a, b, x) = true) (hs : oks (inf f).1 (62, a, b, x) = true) (h0 : act (62, a, b, x) ls st (L, c) = some (.inl (ls', st', M'))) (hL : M'.1.length ≤ 1000000) (hRc : M'.1.length - n0 ≤ R.cells) (hRs : slz M'.1 - z0 ≤ R.slots) (hk : WS p l e R s m args below meth c0 Q f A D cA X n xs ad0 n0 z0 (npc pc (62, a, b, x)) ls' st' M'.1 M'.2) : WS p l e R s m args below meth c0 Q f A D cA X n xs ad0 n0 z0 pc ls st L c := by
  intro ad H locs lsM S
  obtain ⟨hx, hb, hml, hown, hts, hK, hST, hA, hr, hlk, hnm⟩ := C
  have h9 := pI_inv h0
  clear h0
  obtain ⟨y, t, rfl, h⟩ := h9
  have h9 := bif_inv h
  clear h
  obtain ⟨h1, h⟩ := h9
  have h1 := Nat.le_of_ble_eq_true h1
  have h : (some (.inl (ls, vI (if 0 ≤ y then y else w32 (0 - y)) :: t, (L, c))) : Act) = some (.inl (ls', st', M')) := h
  cases h
  have hy : In32 y := vok_hd S.stv
  have hcat := catS_le (ad := ad) (X := X) t
  refine va_mabs hx hb (hml.trans S.lr.2.1.symm) hown (hts _ (lkX_word hl)) (hts _ mS_abs) (hts _ mI) (hts _ mC_abs) hRf (by omega) hRc hRs hd ?_
  refine W_top (v := .int (Int32.ofInt (if 0 ≤ y then y else w32 (0 - y)))) ?_ (hk ad H locs lsM (S.stk (vok_cons (vokI ?_) (vok_tl S.stv))))
  · by_cases q : 0 ≤ y
    · rw [if_pos q, if_pos (by rw [← o32_0]; exact (o32_le in32_0 hy).mpr q)]
    · rw [if_neg q, if_neg (fun w => q (by rw [← o32_0] at w; exact (o32_le in32_0 hy).mp w)), o32_sub, o32_0]
  · split
    · exact hy
    · exact in32_w _
theorem g_63 (C : CX p s m args meth c0 f A D cA X n xs) (hRf : 1 ≤ R.frames) (hRl : 100 ≤ R.locals) (hd : decode (mtbs f).1 pc = .ok (raw pc (63, a, b, x))) (hl : lnk (mtbs f).2.2.2.2 (mtbs f).2.2.1 (mtbs f).2.1.name (63, a, b, x) = true) (hs : oks (inf f).1 (63, a, b, x) = true) (h0 : act (63, a, b, x) ls st (L, c) = some (.inl (ls', st', M'))) (hL : M'.1.length ≤ 1000000) (hRc : M'.1.length - n0 ≤ R.cells) (hRs : slz M'.1 - z0 ≤ R.slots) (hk : WS p l e R s m args below meth c0 Q f A D cA X n xs ad0 n0 z0 (npc pc (63, a, b, x)) ls' st' M'.1 M'.2) : WS p l e R s m args below meth c0 Q f A D cA X n xs ad0 n0 z0 pc ls st L c := by
  intro ad H locs lsM S
  obtain ⟨hx, hb, hml, hown, hts, hK, hST, hA, hr, hlk, hnm⟩ := C
  have h9 := pI_inv h0
  clear h0
  obtain ⟨y, t, rfl, h⟩ := h9
  have h9 := pI_inv h
  clear h
  obtain ⟨z, t, rfl, h⟩ := h9
  have h9 := bif_inv h
  clear h
  obtain ⟨h1, h⟩ := h9
  have h1 := Nat.le_of_ble_eq_true h1
  have h : (some (.inl (ls, vI (if z < y then y else z) :: t, (L, c))) : Act) = some (.inl (ls', st', M')) := h
  cases h
  have hy : In32 y := vok_hd S.stv
  have hz : In32 z := vok_hd (vok_tl S.stv)
  have hcat := catS_le (ad := ad) (X := X) t
  refine va_mmax hx hb (hml.trans S.lr.2.1.symm) hown (hts _ (lkX_word hl)) (hts _ mS_max) (hts _ mI) (hts _ mC_max) hRf (by omega) hRc hRs hd ?_
  refine W_top (v := .int (Int32.ofInt (if z < y then y else z))) ?_ (hk ad H locs lsM (S.stk (vok_cons (vokI ?_) (vok_tl (vok_tl S.stv)))))
  · by_cases q : z < y
    · rw [if_pos q, if_pos ((o32_lt hz hy).mpr q)]
    · rw [if_neg q, if_neg (fun w => q ((o32_lt hz hy).mp w))]
  · split
    · exact hy
    · exact hz
theorem g_64 (C : CX p s m args meth c0 f A D cA X n xs) (hRf : 1 ≤ R.frames) (hRl : 100 ≤ R.locals) (hd : decode (mtbs f).1 pc = .ok (raw pc (64, a, b, x))) (hl : lnk (mtbs f).2.2.2.2 (mtbs f).2.2.1 (mtbs f).2.1.name (64, a, b, x) = true) (hs : oks (inf f).1 (64, a, b, x) = true) (h0 : act (64, a, b, x) ls st (L, c) = some (.inl (ls', st', M'))) (hL : M'.1.length ≤ 1000000) (hRc : M'.1.length - n0 ≤ R.cells) (hRs : slz M'.1 - z0 ≤ R.slots) (hk : WS p l e R s m args below meth c0 Q f A D cA X n xs ad0 n0 z0 (npc pc (64, a, b, x)) ls' st' M'.1 M'.2) : WS p l e R s m args below meth c0 Q f A D cA X n xs ad0 n0 z0 pc ls st L c := by
  intro ad H locs lsM S
  obtain ⟨hx, hb, hml, hown, hts, hK, hST, hA, hr, hlk, hnm⟩ := C
  have h9 := pI_inv h0
  clear h0
  obtain ⟨y, t, rfl, h⟩ := h9
  have h9 := pI_inv h
  clear h
  obtain ⟨z, t, rfl, h⟩ := h9
  have h9 := bif_inv h
  clear h
  obtain ⟨h1, h⟩ := h9
  have h1 := Nat.le_of_ble_eq_true h1
  have h : (some (.inl (ls, vI (if y < z then y else z) :: t, (L, c))) : Act) = some (.inl (ls', st', M')) := h
  cases h
  have hy : In32 y := vok_hd S.stv
  have hz : In32 z := vok_hd (vok_tl S.stv)
  have hcat := catS_le (ad := ad) (X := X) t
  refine va_mmin hx hb (hml.trans S.lr.2.1.symm) hown (hts _ (lkX_word hl)) (hts _ mS_min) (hts _ mI) (hts _ mC_min) hRf (by omega) hRc hRs hd ?_
  refine W_top (v := .int (Int32.ofInt (if y < z then y else z))) ?_ (hk ad H locs lsM (S.stk (vok_cons (vokI ?_) (vok_tl (vok_tl S.stv)))))
  · by_cases q : y < z
    · rw [if_pos q, if_pos ((o32_lt hy hz).mpr q)]
    · rw [if_neg q, if_neg (fun w => q ((o32_lt hy hz).mp w))]
  · split
    · exact hy
    · exact hz
end OPS
