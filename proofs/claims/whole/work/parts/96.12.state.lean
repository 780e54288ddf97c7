/-! SOUNDNESS, 1: what stands between an interpreter's state and the machine's (own work) -/
def tysOf (cA : Nat → ClassId) : List (ClassId × FieldType) := [(cA 0, .int), (cA 1, .long), (cA 2, .boolean), (cA 3, .object RX7), (cA 4, .object RX10)]
def lenT : List Nat := (List.range 12).map (fun j => (strb j).length)
def bytT : List (List Int32) := (List.range 12).map (fun j => (strb j).map Int32.ofInt)
def sTx (j : Nat) : String := match j with
  | 0 => "looks lets asks ranks bars"
  | 1 => "paint scrape copy touch"
  | 2 => "likest cheapest by"
  | 3 => "at"
  | 4 => "with"
  | 5 => "times"
  | 6 => "if"
  | 7 => "or"
  | 8 => "and"
  | 9 => "not"
  | 10 => "years unlike money copies age done tone"
  | _ => "cell age year painter price mood claimant born near children"
/-- what of the machine nobody writes: String constants, two statics, the script -/
def STR (A : Nat → Prop) (X : AdX) (n : Nat) (xs : Nat → Int32) (s : State) : Prop :=
  vk_S 12 lenT bytT X.1 X.2.1 A s s.heap ∧ (∀ q ∈ lkS, vk_R (rnm q.1) q.2.1 (sTx q.2.2.1) (X.1 q.2.2.1) s) ∧ va_Z "java/lang/String" "COMPACT_STRINGS" "Z" (.int 1) A s s.heap ∧ va_Z "jdk/internal/util/Preconditions" "SIOOBE_FORMATTER" "Ljava/util/function/BiFunction;" (va_rf X.2.2.2) A s s.heap ∧ va_X X.2.2.1 n xs s s.heap ∧ X.2.2.1 < s.heap.size ∧ ¬ A X.2.2.1 ∧ n ≤ 3072 ∧ va_AO RX7 s ∧ va_AO RX10 s ∧ ∀ w idx y, Cond.methodLinkNest w idx y RX11 ∈ lw_tbl → va_Nw (.methodLinkNest w idx y RX11) s
/-- the fixed part of a walk -/
def CX (p : Program) (s : State) (m : MethodId) (args : Array Value) (meth : Method) (c0 : Code) (f : Nat) (A : Nat → Prop) (D : va_G) (cA : Nat → ClassId) (X : AdX) (n : Nat) (xs : Nat → Int32) : Prop :=
  p.tables.exec = Jvm.exec ∧ c0.code = (mtbs f).1 ∧ c0.maxLocals = (inf f).1 ∧ s.vm.findClass (rnm (mtbs f).2.2.2.2) = some m.cls ∧ (∀ w ∈ TB, w.before args s = true) ∧ va_K D vwCl (tysOf cA) s ∧ STR A X n xs s ∧ (∀ q, s.heap.size ≤ q → A q) ∧ meth.sig.returnType = (mtbs f).2.2.1 ∧ meth.locks = false ∧ ((mtbs f).2.1.name = "<init>" → meth.name = "<init>")
def LRl (nL : Nat) (ad : Nat → Nat) (X : AdX) (ls : List V) (lsM : Array Slot) : Prop := ls.length = nL ∧ lsM.size = nL ∧ lv_wf lsM ∧ ∀ (i : Nat) (v : V), ls[i]? = some v → tyV v ≠ 3 → lsM[i]? = some (.val (mv ad X v))
/-- the state: memory, locals, stack; since the method's start (addresses ad0 of the n0 cells then) -/
def SR (f : Nat) (A : Nat → Prop) (s : State) (D : va_G) (cA : Nat → ClassId) (X : AdX) (n : Nat) (xs : Nat → Int32) (ad0 : Nat → Nat) (n0 z0 : Nat) (ad : Nat → Nat) (ls st : List V) (L : List Shp) (c : Nat → Int → Int) (H : Heap) (locs : List Loc) (lsM : Array Slot) : Prop :=
  va_P D vwCl (wsl ad X cA L c) H ∧ va_D A (wsl ad X cA L c) ∧ va_S A s.heap H locs ∧ mok L c ∧ SCR n xs c ∧ (n0 ≤ L.length ∧ z0 ≤ slz L ∧ ∀ k, k < n0 → ad k = ad0 k) ∧ LRl (inf f).1 ad X ls lsM ∧ (∀ v ∈ ls, vok L.length v) ∧ ∀ v ∈ st, vok L.length v
section SO
variable {p : Program} {l : Launch} {e : Env} {R : Room} {s : State} {m : MethodId} {args : Array Value} {below : List Frame} {meth : Method} {c0 : Code} {Q : State → Prop} {f : Nat} {A : Nat → Prop} {D : va_G} {cA : Nat → ClassId} {X : AdX} {n : Nat} {xs : Nat → Int32} {ad0 ad : Nat → Nat} {n0 z0 : Nat}
variable {ls st : List V} {L : List Shp} {c : Nat → Int → Int} {H : Heap} {locs : List Loc} {lsM : Array Slot}
/-- from every machine state that stands for this one, the walk comes to its end -/
def WS (p : Program) (l : Launch) (e : Env) (R : Room) (s : State) (m : MethodId) (args : Array Value) (below : List Frame) (meth : Method) (c0 : Code) (Q : State → Prop) (f : Nat) (A : Nat → Prop) (D : va_G) (cA : Nat → ClassId) (X : AdX) (n : Nat) (xs : Nat → Int32) (ad0 : Nat → Nat) (n0 z0 : Nat) (pc : Nat) (ls st : List V) (L : List Shp) (c : Nat → Int → Int) : Prop :=
  ∀ (ad : Nat → Nat) (H : Heap) (locs : List Loc) (lsM : Array Slot), SR f A s D cA X n xs ad0 n0 z0 ad ls st L c H locs lsM → W p l e R s m args below meth c0 H locs (L.length - n0) (slz L - z0) Q (F0 m pc lsM (st.map (mv ad X)))
theorem SR.stk {st' : List V} (S : SR f A s D cA X n xs ad0 n0 z0 ad ls st L c H locs lsM) (h : ∀ v ∈ st', vok L.length v) : SR f A s D cA X n xs ad0 n0 z0 ad ls st' L c H locs lsM :=
  ⟨S.1, S.2.1, S.2.2.1, S.2.2.2.1, S.2.2.2.2.1, S.2.2.2.2.2.1, S.2.2.2.2.2.2.1, S.2.2.2.2.2.2.2.1, h⟩
theorem SR.stv (S : SR f A s D cA X n xs ad0 n0 z0 ad ls st L c H locs lsM) : ∀ v ∈ st, vok L.length v := S.2.2.2.2.2.2.2.2
theorem SR.lsv (S : SR f A s D cA X n xs ad0 n0 z0 ad ls st L c H locs lsM) : ∀ v ∈ ls, vok L.length v := S.2.2.2.2.2.2.2.1
theorem SR.lr (S : SR f A s D cA X n xs ad0 n0 z0 ad ls st L c H locs lsM) : LRl (inf f).1 ad X ls lsM := S.2.2.2.2.2.2.1
/-- a new memory, the old addresses -/
theorem SR.mem {st' : List V} {L' : List Shp} {c' : Nat → Int → Int} {H' : Heap} {locs' : List Loc} (S : SR f A s D cA X n xs ad0 n0 z0 ad ls st L c H locs lsM) (hl : L'.length = L.length) (hz : slz L' = slz L) (hP : va_P D vwCl (wsl ad X cA L' c') H') (hD : va_D A (wsl ad X cA L' c')) (hS : va_S A s.heap H' locs') (hm : mok L' c') (hc : SCR n xs c') (h : ∀ v ∈ st', vok L.length v) : SR f A s D cA X n xs ad0 n0 z0 ad ls st' L' c' H' locs' lsM :=
  ⟨hP, hD, hS, hm, hc, by rw [hl, hz]; exact S.2.2.2.2.2.1, S.lr, by rw [hl]; exact S.lsv, by rw [hl]; exact h⟩
/-! inverses -/
theorem pI_inv {α : Type} {g : Int → List V → Option α} {r : α} (h : pI none st g = some r) : ∃ x t, st = vI x :: t ∧ g x t = some r := by
  rcases st with _ | ⟨x | x | x | x, t⟩ <;> first | exact ⟨_, _, rfl, h⟩ | (exact absurd h (by simp [pI]))
theorem pL_inv {α : Type} {g : Int → List V → Option α} {r : α} (h : pL none st g = some r) : ∃ x t, st = vL x :: t ∧ g x t = some r := by
  rcases st with _ | ⟨x | x | x | x, t⟩ <;> first | exact ⟨_, _, rfl, h⟩ | (exact absurd h (by simp [pL]))
theorem pR_inv {α : Type} {g : Int → List V → Option α} {r : α} (h : pR none st g = some r) : ∃ x t, st = vR x :: t ∧ g x t = some r := by
  rcases st with _ | ⟨x | x | x | x, t⟩ <;> first | exact ⟨_, _, rfl, h⟩ | (exact absurd h (by simp [pR]))
theorem pV_inv {α : Type} {g : V → List V → Option α} {r : α} (h : pV none st g = some r) : ∃ x t, st = x :: t ∧ g x t = some r := by
  rcases st with _ | ⟨v, t⟩
  · exact absurd h (by simp [pV])
  · exact ⟨_, _, rfl, h⟩
theorem pE_inv {α : Type} {y : Option α} {r : α} (h : pE none st y = some r) : st = [] ∧ y = some r := by
  rcases st with _ | ⟨v, t⟩
  · exact ⟨rfl, h⟩
  · exact absurd h (by simp [pE])
theorem bif_inv {α : Type} {b : Bool} {y : Option α} {r : α} (h : (bif b then y else none) = some r) : b = true ∧ y = some r := by
  cases b with
  | true => exact ⟨rfl, h⟩
  | false => exact absurd h (by simp)
theorem if_inv {α : Type} {q : Prop} {dq : Decidable q} {y : Option α} {r : α} (h : (@ite _ q dq y none) = some r) : q ∧ y = some r := by
  by_cases hq : q
  · rw [if_pos hq] at h; exact ⟨hq, h⟩
  · rw [if_neg hq] at h; exact absurd h (by simp)
theorem ifn_inv {α : Type} {q : Prop} {dq : Decidable q} {y : Option α} {r : α} (h : (@ite _ q dq none y) = some r) : ¬ q ∧ y = some r := by
  by_cases hq : q
  · rw [if_pos hq] at h; exact absurd h (by simp)
  · rw [if_neg hq] at h; exact ⟨hq, h⟩
theorem el_inv {α γ : Type} {o : Option γ} {g : γ → Option α} {r : α} (h : o.elim none g = some r) : ∃ q, o = some q ∧ g q = some r := by
  cases o with
  | none => exact absurd h (by simp)
  | some q => exact ⟨q, rfl, h⟩
theorem drf_inv {r : Int} {q : Nat × Shp} (h : drf L r = some q) : r = (q.1 : Int) + 1 ∧ L[q.1]? = some q.2 := by
  rcases r with (_ | k) | k
  · exact absurd h (by simp [drf])
  · have h' : (L[k]?).elim none (fun s => some (k, s)) = some q := h
    obtain ⟨s, h1, h2⟩ := el_inv h'
    cases h2
    exact ⟨rfl, h1⟩
  · exact absurd h (by simp [drf])
theorem pD_inv {α : Type} {r0 : Int} {g : Nat → Shp → Option α} {r : α} (h : pD none L r0 g = some r) : ∃ (k : Nat) (s : Shp), L[k]? = some s ∧ r0 = (k : Int) + 1 ∧ g k s = some r := by
  obtain ⟨q, h1, h2⟩ := el_inv h
  obtain ⟨h3, h4⟩ := drf_inv h1
  exact ⟨q.1, q.2, h4, h3, h2⟩
theorem trf_inv {r0 : Int} {b : Nat} (h : trf L r0 b = true) : r0 = 0 ∨ ∃ (k : Nat) (s : Shp), L[k]? = some s ∧ r0 = (k : Int) + 1 ∧ s.1 = b := by
  unfold trf at h
  rcases (Bool.or_eq_true _ _).mp h with h | h
  · exact .inl (of_decide_eq_true h)
  · cases e : drf L r0 with
    | none => rw [e] at h; exact absurd (show false = true from h) (by decide)
    | some q =>
      rw [e] at h
      obtain ⟨h3, h4⟩ := drf_inv e
      exact .inr ⟨q.1, q.2, h4, h3, Nat.eq_of_beq_eq_true h⟩
theorem rof_cell {k : Nat} : rof ad X ((k : Int) + 1) = some (ad k) := rfl
theorem mv_cell {k : Nat} : mv ad X (vR ((k : Int) + 1)) = .ref (ad k) := rfl
/-- the locals as the kit's rows want them -/
def prs (ad : Nat → Nat) (X : AdX) (ls : List V) : List (Nat × Value) := (List.range ls.length).filterMap (fun i => match ls[i]? with
  | some v => bif Nat.beq (tyV v) 3 then none else some (i, mv ad X v)
  | none => none)
theorem prs_mem {i : Nat} {v : V} (h : ls[i]? = some v) (hv : tyV v ≠ 3) : (i, mv ad X v) ∈ prs ad X ls := by
  unfold prs
  refine List.mem_filterMap.mpr ⟨i, List.mem_range.mpr (List.getElem?_eq_some_iff.mp h).1, ?_⟩
  rw [h]
  show (bif Nat.beq (tyV v) 3 then none else some (i, mv ad X v)) = _
  have : Nat.beq (tyV v) 3 = false := by
    cases hb : Nat.beq (tyV v) 3 with
    | false => rfl
    | true => exact absurd (Nat.eq_of_beq_eq_true hb) hv
  rw [this]
  rfl
theorem prs_inv {q : Nat × Value} (h : q ∈ prs ad X ls) : ∃ v, ls[q.1]? = some v ∧ tyV v ≠ 3 ∧ q.2 = mv ad X v := by
  obtain ⟨i, h1, h2⟩ := List.mem_filterMap.mp h
  cases hv : ls[i]? with
  | none => rw [hv] at h2; exact absurd h2 (by simp)
  | some v =>
    rw [hv] at h2
    have h3 : (bif Nat.beq (tyV v) 3 then none else some (i, mv ad X v)) = some q := h2
    cases hb : Nat.beq (tyV v) 3 with
    | true => rw [hb] at h3; exact absurd h3 (by simp)
    | false =>
      rw [hb] at h3
      cases h3
      exact ⟨v, hv, fun z => by rw [z] at hb; exact absurd hb (by decide), rfl⟩
theorem LRl.has {nL : Nat} (h : LRl nL ad X ls lsM) : lv_has lsM nL (prs ad X ls) := by
  obtain ⟨h1, h2, h3, h4⟩ := h
  refine ⟨h2, h3, fun q hq => ?_⟩
  obtain ⟨v, a1, a2, a3⟩ := prs_inv hq
  rw [a3]
  exact h4 _ _ a1 a2
theorem mv_cat {v : V} (h : tyV v ≠ 3) : (mv ad X v).category = (if tyV v = 1 then 2 else 1) := by
  rcases v with x | x | r | u
  · rfl
  · rfl
  · show (va_rf (rof ad X r)).category = 1
    cases rof ad X r <;> rfl
  · exact absurd rfl h
theorem kil_len {a : Nat} : (kil ls a).length = ls.length := by
  rcases a with _ | b
  · rfl
  · show ((ls[b]?).elim ls (fun v => bif Nat.beq (tyV v) 1 then ls.set b vU else ls)).length = _
    cases ls[b]? with
    | none => rfl
    | some v =>
      show (bif Nat.beq (tyV v) 1 then ls.set b vU else ls).length = _
      cases Nat.beq (tyV v) 1 with
      | true => exact List.length_set
      | false => rfl
theorem sto_len {a b : Nat} {v : V} : (sto ls a b v).length = ls.length := by
  unfold sto
  cases Nat.beq b 1 with
  | true => show (((kil ls a).set a v).set (a + 1) vU).length = _; rw [List.length_set, List.length_set, kil_len]
  | false => show ((kil ls a).set a v).length = _; rw [List.length_set, kil_len]
/-- what is left of the locals ahead of a store -/
theorem kil_inv {a i : Nat} {w : V} (h : (kil ls a)[i]? = some w) (hw : tyV w ≠ 3) : ls[i]? = some w ∧ ¬ (i + 1 = a ∧ tyV w = 1) := by
  rcases a with _ | b
  · exact ⟨h, fun q => by omega⟩
  · have h' : ((ls[b]?).elim ls (fun v => bif Nat.beq (tyV v) 1 then ls.set b vU else ls))[i]? = some w := h
    cases hb : ls[b]? with
    | none =>
      rw [hb] at h'
      have h2 : ls[i]? = some w := h'
      refine ⟨h2, fun q => ?_⟩
      have : i = b := by omega
      rw [this, hb] at h2
      cases h2
    | some v =>
      rw [hb] at h'
      have h2 : (bif Nat.beq (tyV v) 1 then ls.set b vU else ls)[i]? = some w := h'
      cases ht : Nat.beq (tyV v) 1 with
      | true =>
        rw [ht] at h2
        have h3 : (ls.set b vU)[i]? = some w := h2
        by_cases hi : b = i
        · subst hi
          rw [List.getElem?_set_self (List.getElem?_eq_some_iff.mp hb).1] at h3
          cases h3
          exact absurd rfl hw
        · rw [List.getElem?_set_ne hi] at h3
          exact ⟨h3, fun q => by omega⟩
      | false =>
        rw [ht] at h2
        have h3 : ls[i]? = some w := h2
        refine ⟨h3, fun q => ?_⟩
        have : i = b := by omega
        rw [this, hb] at h3
        cases h3
        rw [q.2] at ht
        exact absurd ht (by decide)
theorem kil_mem {a : Nat} {w : V} (h : w ∈ kil ls a) : w ∈ ls ∨ w = vU := by
  rcases a with _ | b
  · exact Or.inl h
  · have h' : w ∈ (ls[b]?).elim ls (fun v => bif Nat.beq (tyV v) 1 then ls.set b vU else ls) := h
    cases hb : ls[b]? with
    | none => rw [hb] at h'; exact Or.inl h'
    | some v =>
      rw [hb] at h'
      have h2 : w ∈ (bif Nat.beq (tyV v) 1 then ls.set b vU else ls) := h'
      cases ht : Nat.beq (tyV v) 1 with
      | true => rw [ht] at h2; exact List.mem_or_eq_of_mem_set h2
      | false => rw [ht] at h2; exact Or.inl h2
theorem sto_ok {N a b : Nat} {v : V} (h : ∀ w ∈ ls, vok N w) (hv : vok N v) : ∀ w ∈ sto ls a b v, vok N w := by
  intro w hw
  have k1 : ∀ w ∈ (kil ls a).set a v, vok N w := by
    intro w hw
    rcases List.mem_or_eq_of_mem_set hw with q | q
    · rcases kil_mem q with q | q
      · exact h w q
      · rw [q]; trivial
    · rw [q]; exact hv
  unfold sto at hw
  cases hb : Nat.beq b 1 with
  | true =>
    rw [hb] at hw
    rcases List.mem_or_eq_of_mem_set (show w ∈ ((kil ls a).set a v).set (a + 1) vU from hw) with q | q
    · exact k1 w q
    · rw [q]; trivial
  | false => rw [hb] at hw; exact k1 w hw
/-- behind a store of one place -/
theorem LRl.sto1 {nL a b : Nat} {v : V} {lsM' : Array Slot} (h : LRl nL ad X ls lsM) (hb : Nat.beq b 1 = false) (hv : tyV v ≠ 3) (ha : a < nL) (h' : lv_has lsM' nL ((a, mv ad X v) :: (prs ad X ls).filter (fun q => !(q.1 == a) && !(q.1 + 1 == a && q.2.category == 2)))) : LRl nL ad X (sto ls a b v) lsM' := by
  obtain ⟨h1, h2, h3, h4⟩ := h
  obtain ⟨g1, g2, g3⟩ := h'
  refine ⟨sto_len.trans h1, g1, g2, fun i w hw ht => ?_⟩
  unfold sto at hw
  rw [hb] at hw
  have hw : ((kil ls a).set a v)[i]? = some w := hw
  by_cases hi : a = i
  · subst hi
    rw [List.getElem?_set_self (by rw [kil_len, h1]; exact ha)] at hw
    cases hw
    exact g3 _ List.mem_cons_self
  · rw [List.getElem?_set_ne hi] at hw
    obtain ⟨k1, k2⟩ := kil_inv hw ht
    refine g3 (i, mv ad X w) (List.mem_cons_of_mem _ (List.mem_filter.mpr ⟨prs_mem k1 ht, ?_⟩))
    have e1 : (i == a) = false := by simpa using fun q => hi q.symm
    have e2 : (i + 1 == a && (mv ad X w).category == 2) = false := by
      rw [mv_cat ht]
      by_cases q1 : i + 1 = a
      · have : tyV w ≠ 1 := fun z => k2 ⟨q1, z⟩
        rw [if_neg this]
        simp
      · simp [q1]
    show (!(i == a) && !(i + 1 == a && (mv ad X w).category == 2)) = true
    rw [e1, e2]
    rfl
theorem LRl.sto2 {nL a b : Nat} {v : V} {lsM' : Array Slot} (h : LRl nL ad X ls lsM) (hb : Nat.beq b 1 = true) (hv : tyV v ≠ 3) (ha : a + 1 < nL) (h' : lv_has lsM' nL ((a, mv ad X v) :: (prs ad X ls).filter (fun q => !(q.1 == a) && (!(q.1 == a + 1) && !(q.1 + 1 == a && q.2.category == 2))))) : LRl nL ad X (sto ls a b v) lsM' := by
  obtain ⟨h1, h2, h3, h4⟩ := h
  obtain ⟨g1, g2, g3⟩ := h'
  refine ⟨sto_len.trans h1, g1, g2, fun i w hw ht => ?_⟩
  unfold sto at hw
  rw [hb] at hw
  have hw : (((kil ls a).set a v).set (a + 1) vU)[i]? = some w := hw
  by_cases hj : a + 1 = i
  · subst hj
    rw [List.getElem?_set_self (by rw [List.length_set, kil_len, h1]; exact ha)] at hw
    cases hw
    exact absurd rfl ht
  · rw [List.getElem?_set_ne hj] at hw
    by_cases hi : a = i
    · subst hi
      rw [List.getElem?_set_self (by rw [kil_len, h1]; omega)] at hw
      cases hw
      exact g3 _ List.mem_cons_self
    · rw [List.getElem?_set_ne hi] at hw
      obtain ⟨k1, k2⟩ := kil_inv hw ht
      refine g3 (i, mv ad X w) (List.mem_cons_of_mem _ (List.mem_filter.mpr ⟨prs_mem k1 ht, ?_⟩))
      have e1 : (i == a) = false := by simpa using fun q => hi q.symm
      have e3 : (i == a + 1) = false := by simpa using fun q => hj q.symm
      have e2 : (i + 1 == a && (mv ad X w).category == 2) = false := by
        rw [mv_cat ht]
        by_cases q1 : i + 1 = a
        · have : tyV w ≠ 1 := fun z => k2 ⟨q1, z⟩
          rw [if_neg this]
          simp
        · simp [q1]
      show (!(i == a) && (!(i == a + 1) && !(i + 1 == a && (mv ad X w).category == 2))) = true
      rw [e1, e2, e3]
      rfl
theorem msk_len : ∀ (ls : List V) (b : Nat), (msk b ls).length = ls.length
  | [], _ => rfl
  | v :: l, b => by show (msk (b / 2) l).length + 1 = l.length + 1; rw [msk_len l]
theorem msk_inv : ∀ (ls : List V) (b i : Nat) (w : V), (msk b ls)[i]? = some w → tyV w ≠ 3 → ls[i]? = some w
  | [], _, i, w, h, _ => h
  | v :: l, b, 0, w, h, hw => by
    have h : (bif Nat.beq (b % 2) 1 then v else vU) = w := by simpa [msk] using h
    cases hb : Nat.beq (b % 2) 1 with
    | true => rw [hb] at h; simpa using h
    | false => rw [hb] at h; exact absurd (show tyV w = 3 by rw [← h]; rfl) hw
  | v :: l, b, i + 1, w, h, hw => by
    have h : (msk (b / 2) l)[i]? = some w := by simpa [msk] using h
    simpa using msk_inv l (b / 2) i w h hw
theorem msk_mem : ∀ (ls : List V) (b : Nat) (w : V), w ∈ msk b ls → w ∈ ls ∨ w = vU
  | [], _, w, h => Or.inl h
  | v :: l, b, w, h => by
    have h : w ∈ (bif Nat.beq (b % 2) 1 then v else vU) :: msk (b / 2) l := h
    rcases List.mem_cons.mp h with q | q
    · cases hb : Nat.beq (b % 2) 1 with
      | true => rw [hb] at q; exact Or.inl (List.mem_cons.mpr (Or.inl q))
      | false => rw [hb] at q; exact Or.inr q
    · rcases msk_mem l (b / 2) w q with q | q
      · exact Or.inl (List.mem_cons_of_mem _ q)
      · exact Or.inr q
theorem LRl.mask {nL b : Nat} (h : LRl nL ad X ls lsM) : LRl nL ad X (msk b ls) lsM := ⟨(msk_len ls b).trans h.1, h.2.1, h.2.2.1, fun i v hv ht => h.2.2.2 i v (msk_inv ls b i v hv ht) ht⟩
/-- locals that nobody looks at may be forgotten -/
theorem WS.mask {pc b : Nat} (h : WS p l e R s m args below meth c0 Q f A D cA X n xs ad0 n0 z0 pc (msk b ls) st L c) : WS p l e R s m args below meth c0 Q f A D cA X n xs ad0 n0 z0 pc ls st L c := by
  intro ad H locs lsM S
  refine h ad H locs lsM ⟨S.1, S.2.1, S.2.2.1, S.2.2.2.1, S.2.2.2.2.1, S.2.2.2.2.2.1, S.lr.mask, fun v hv => ?_, S.stv⟩
  rcases msk_mem ls b v hv with q | q
  · exact S.lsv v q
  · rw [q]; trivial
end SO
