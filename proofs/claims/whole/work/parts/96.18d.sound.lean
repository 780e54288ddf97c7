/-! SOUNDNESS, 8: a method begins; what the interpreter answers, the machine answers (own work) -/
section ENTRY
variable {ad : Nat → Nat} {X : AdX}
theorem mv_cat2 (v : V) : (mv ad X v).category = bif Nat.beq (tyV v) 1 then 2 else 1 := by
  rcases v with x | x | x | x
  · rfl
  · rfl
  · show (va_rf (rof ad X x)).category = 1
    cases rof ad X x <;> rfl
  · rfl
theorem lg_len : ∀ av : List V, (lg_sl (av.map (mv ad X))).length = catS av
  | [] => rfl
  | v :: l => by
    have ih := lg_len l
    have hc := mv_cat2 (ad := ad) (X := X) v
    have e : lg_sl ((v :: l).map (mv ad X)) = (if (mv ad X v).category = 2 then [Slot.val (mv ad X v), .second] else [.val (mv ad X v)]) ++ lg_sl (l.map (mv ad X)) := by
      simp [lg_sl]
    have e2 : catS (v :: l) = (bif Nat.beq (tyV v) 1 then 2 else 1) + catS l := rfl
    rw [e, List.length_append, ih, e2, hc]
    cases Nat.beq (tyV v) 1 <;> rfl
theorem mkl_len : ∀ (av : List V) (n : Nat), catS av ≤ n → (mkl n av).length = n
  | [], n, _ => List.length_replicate
  | v :: l, n, h => by
    have e2 : catS (v :: l) = (bif Nat.beq (tyV v) 1 then 2 else 1) + catS l := rfl
    have e3 : mkl n (v :: l) = bif Nat.beq (tyV v) 1 then v :: vU :: mkl (n - 2) l else v :: mkl (n - 1) l := rfl
    rw [e2] at h
    rw [e3]
    cases hb : Nat.beq (tyV v) 1 with
    | true =>
      rw [hb] at h
      have h : 2 + catS l ≤ n := h
      have ih := mkl_len l (n - 2) (by omega)
      show (mkl (n - 2) l).length + 1 + 1 = n
      omega
    | false =>
      rw [hb] at h
      have h : 1 + catS l ≤ n := h
      have ih := mkl_len l (n - 1) (by omega)
      show (mkl (n - 1) l).length + 1 = n
      omega
theorem mkl_mem : ∀ (av : List V) (n : Nat) (v : V), v ∈ mkl n av → v ∈ av ∨ v = vU
  | [], n, v, h => Or.inr (List.eq_of_mem_replicate h)
  | w :: l, n, v, h => by
    have e3 : mkl n (w :: l) = bif Nat.beq (tyV w) 1 then w :: vU :: mkl (n - 2) l else w :: mkl (n - 1) l := rfl
    rw [e3] at h
    cases hb : Nat.beq (tyV w) 1 with
    | true =>
      rw [hb] at h
      rcases List.mem_cons.mp (show v ∈ w :: vU :: mkl (n - 2) l from h) with q | q
      · exact Or.inl (by rw [q]; exact List.mem_cons_self)
      · rcases List.mem_cons.mp q with q | q
        · exact Or.inr q
        · rcases mkl_mem l _ v q with q | q
          · exact Or.inl (List.mem_cons_of_mem _ q)
          · exact Or.inr q
    | false =>
      rw [hb] at h
      rcases List.mem_cons.mp (show v ∈ w :: mkl (n - 1) l from h) with q | q
      · exact Or.inl (by rw [q]; exact List.mem_cons_self)
      · rcases mkl_mem l _ v q with q | q
        · exact Or.inl (List.mem_cons_of_mem _ q)
        · exact Or.inr q
theorem mkl_at : ∀ (av : List V) (n i off : Nat) (v : V), (mkl n av)[i]? = some v → tyV v ≠ 3 → (i + off, mv ad X v) ∈ lv_args off (av.map (mv ad X))
  | [], n, i, off, v, h, ht => by
    have := List.eq_of_mem_replicate (List.mem_of_getElem? h)
    subst this
    exact absurd rfl ht
  | w :: l, n, i, off, v, h, ht => by
    have e3 : mkl n (w :: l) = bif Nat.beq (tyV w) 1 then w :: vU :: mkl (n - 2) l else w :: mkl (n - 1) l := rfl
    have e4 : lv_args off ((w :: l).map (mv ad X)) = (off, mv ad X w) :: lv_args (if (mv ad X w).category = 2 then off + 2 else off + 1) (l.map (mv ad X)) := rfl
    have hc := mv_cat2 (ad := ad) (X := X) w
    rw [e3] at h
    rw [e4]
    cases hb : Nat.beq (tyV w) 1 with
    | true =>
      rw [hb] at h hc
      have h : (w :: vU :: mkl (n - 2) l)[i]? = some v := h
      have hc : (mv ad X w).category = 2 := hc
      rw [if_pos hc]
      match i, h with
      | 0, h =>
        have h : some w = some v := h
        cases h
        rw [Nat.zero_add]
        exact List.mem_cons_self
      | 1, h =>
        have h : some vU = some v := h
        cases h
        exact absurd rfl ht
      | i + 2, h =>
        have h : (mkl (n - 2) l)[i]? = some v := h
        have := mkl_at l (n - 2) i (off + 2) v h ht
        rw [show i + 2 + off = i + (off + 2) by omega]
        exact List.mem_cons_of_mem _ this
    | false =>
      rw [hb] at h hc
      have h : (w :: mkl (n - 1) l)[i]? = some v := h
      have hc : ¬ (mv ad X w).category = 2 := by
        rw [hc]
        decide
      rw [if_neg hc]
      match i, h with
      | 0, h =>
        have h : some w = some v := h
        cases h
        rw [Nat.zero_add]
        exact List.mem_cons_self
      | i + 1, h =>
        have h : (mkl (n - 1) l)[i]? = some v := h
        have := mkl_at l (n - 1) i (off + 1) v h ht
        rw [show i + 1 + off = i + (off + 1) by omega]
        exact List.mem_cons_of_mem _ this
theorem entry_LR {av : List V} {n : Nat} (h : catS av ≤ n) : LRl n ad X (mkl n av) ((lg_sl (av.map (mv ad X)) ++ List.replicate (n - (lg_sl (av.map (mv ad X))).length) Slot.unset).toArray) := by
  obtain ⟨h1, h2, h3⟩ := lv_entry (av.map (mv ad X)) (n := n) (by rw [lg_len]; exact h)
  refine ⟨mkl_len av n h, h1, h2, fun i v hv ht => ?_⟩
  exact h3 (i, mv ad X v) (by have := mkl_at (ad := ad) (X := X) av n i 0 v hv ht; rwa [Nat.add_zero] at this)
end ENTRY
theorem fnd_in : ∀ (p : Nat) (l : List (Nat × Nat × List Ins)), (fnd p l).2 = [] ∨ (p, (fnd p l).1, (fnd p l).2) ∈ l
  | p, [] => Or.inl rfl
  | p, (q, b, i) :: r => by
    have e : fnd p ((q, b, i) :: r) = bif Nat.beq p q then (b, i) else fnd p r := rfl
    rw [e]
    cases hb : Nat.beq p q with
    | true =>
      have := beq_of hb
      subst this
      exact Or.inr List.mem_cons_self
    | false =>
      rcases fnd_in p r with h | h
      · exact Or.inl h
      · exact Or.inr (List.mem_cons_of_mem _ h)
/-- the checks of a method's code -/
def CKM (f : Nat) : Prop := chkM f = true ∧ (inf f).2.2.all (fun b => b.2.2.all (oks (inf f).1)) = true
theorem CKM.bl {f : Nat} (h : CKM f) (pc : Nat) : chk (mtbs f).1 (mtbs f).2.2.2.2 (mtbs f).2.2.1 (mtbs f).2.1.name pc (blk f pc).2 = true ∧ (blk f pc).2.all (oks (inf f).1) = true := by
  unfold blk
  rcases fnd_in pc (inf f).2.2 with q | q
  · rw [q]
    exact ⟨rfl, rfl⟩
  · exact ⟨List.all_eq_true.mp h.1 _ q, List.all_eq_true.mp h.2 _ q⟩
theorem ndd_ge (t : Nat × Nat × Nat × Int) (av : List V) : t.1 ≤ ndd t av := by
  unfold ndd
  cases Nat.beq t.2.1 0
  · exact Nat.le_add_right _ _
  · exact Nat.le_refl _
theorem need_ok {g nd : Nat} {av : List V} (h : need g av + 1 ≤ nd) (hn : nd ≤ 1000) (h1 : 1 ≤ (inf g).2.1.1) : catS av ≤ (inf g).1 ∧ 1 ≤ need g av := by
  have e : need g av = bif Nat.ble (catS av) (inf g).1 then ndd (inf g).2.1 av else 1000000 := rfl
  cases hb : Nat.ble (catS av) (inf g).1 with
  | true =>
    rw [hb] at e
    have e : need g av = ndd (inf g).2.1 av := e
    refine ⟨Nat.le_of_ble_eq_true hb, ?_⟩
    rw [e]
    exact Nat.le_trans h1 (ndd_ge _ _)
  | false =>
    rw [hb] at e
    have e : need g av = 1000000 := e
    omega
/-- the walk, for so much fuel -/
def WALK (n' : Nat) : Prop := ∀ (p : Program) (l : Launch) (e : Env) (R : Room) (s : State) (m : MethodId) (args : Array Value) (below : List Frame) (meth : Method) (c0 : Code) (Q : State → Prop) (f : Nat) (A : Nat → Prop) (D : va_G) (cA : Nat → ClassId) (X : AdX) (n : Nat) (xs : Nat → Int32) (ad0 : Nat → Nat) (n0 z0 nd : Nat) (Rv : Option V × Mem), CX p s m args meth c0 f A D cA X n xs → CKM f → 1 ≤ nd → nd ≤ 1000 → nd ≤ R.frames ∧ nd * 100 ≤ R.locals → FIN p l e R s m args below meth c0 Q f A D cA X n xs ad0 n0 z0 Rv → Rv.2.1.length ≤ 1000000 → Rv.2.1.length - n0 ≤ R.cells → slz Rv.2.1 - z0 ≤ R.slots →
  ∀ (pc : Nat) (ls st : List V) (L : List Shp) (c : Nat → Int → Int), run n' f nd pc ls st (L, c) = some Rv → WS p l e R s m args below meth c0 Q f A D cA X n xs ad0 n0 z0 pc ls st L c
theorem met_of {n' : Nat} (HW : WALK n') {g nd : Nat} {av : List V} {L : List Shp} {c : Nat → Int → Int} {Rv : Option V × Mem} (hm : mok1 g = true) (hck : CKM g) (hnd : 1 ≤ nd) (hnd2 : nd ≤ 1000) (hcat : catS av ≤ (inf g).1) (h : run n' g nd 0 (mkl (inf g).1 av) [] (L, c) = some Rv) : CTR g nd av L c Rv := by
  intro l D cA X n xs ad0 sz hmk hsc hav hL
  obtain ⟨hpl, hcls, -, -, -, -, -, -⟩ := of_decide_eq_true hm
  refine Met.ofW (cc := (mtbs g).1) (maxL := (inf g).1) (ret := (mtbs g).2.2.1) hpl rfl ?_
  intro p e s m args below meth c0 s₁ B hml hv
  obtain ⟨hargs, hsz, hP, hK, hD0, hST⟩ := hv
  subst hargs
  subst hsz
  have hts := atoms_spec (ws := wsM g) B.pre
  have hown : s.vm.findClass (mtbs g).2.1.cls = some m.cls := findClass_of_methodNamed B.named
  rw [hcls] at hown
  have C : CX p s m (av.map (mv ad0 X)).toArray meth c0 g (va_A (wsl ad0 X cA L c) s.heap.size) D cA X n xs :=
    ⟨B.exec, B.bytes, hml, hown, fun w hw => hts w (List.mem_cons_of_mem _ hw), hK, hST, fun q hq => Or.inr hq, B.returns, B.notSynchronized, fun h9 => (name_of_methodNamed B.named B.method).1.trans h9⟩
  have K := HW p l e (rmM nd (Rv.2.1.length - L.length) (slz Rv.2.1 - slz L)) s m _ below meth c0 (MQ below (QcM D cA X n xs ad0 s.heap.size L c Rv) (av.map (mv ad0 X)).toArray s (Rv.2.1.length - L.length) (slz Rv.2.1 - slz L) (va_A (wsl ad0 X cA L c) s.heap.size)) g _ D cA X n xs ad0 L.length (slz L) nd Rv C hck hnd hnd2 ⟨Nat.le_refl _, Nat.le_refl _⟩ (fin_met (av := av) C) hL (Nat.le_refl _) (Nat.le_refl _) 0 (mkl (inf g).1 av) [] L c h
    ad0 s.heap [] _ ⟨hP, hD0.self, va_S.rf, hmk, hsc, ⟨Nat.le_refl _, Nat.le_refl _, fun _ _ => rfl⟩, entry_LR hcat, fun v hv => by
      rcases mkl_mem av _ v hv with q | q
      · exact hav v q
      · rw [q]; exact trivial, fun v hv => by cases hv⟩
  rw [Nat.sub_self, Nat.sub_self] at K
  rw [lg_entry_eq]
  exact K
theorem walk_all (hck : ∀ g, mok1 g = true → CKM g) : ∀ n', WALK n'
  | 0 => by
    intro p l e R s m args below meth c0 Q f A D cA X n xs ad0 n0 z0 nd Rv C hk hnd hnd2 hR hfin hL hRc hRs pc ls st L c h
    exact absurd h (by simp [run])
  | n' + 1 => by
    have IH := walk_all hck n'
    intro p l e R s m args below meth c0 Q f A D cA X n xs ad0 n0 z0 nd Rv C hk hnd hnd2 hR hfin hL hRc hRs pc ls st L c h
    obtain ⟨k1, k2⟩ := hk.bl pc
    refine walkL (n' := n') (nd := nd) C hnd hR hfin hL hRc hRs (fun pc ls st L c h => IH p l e R s m args below meth c0 Q f A D cA X n xs ad0 n0 z0 nd Rv C hk hnd hnd2 hR hfin hL hRc hRs pc ls st L c h) (fun g av L c q hq hn hm => ?_) (blk f pc).2 pc ls st L c k1 k2 h
    obtain ⟨-, -, -, -, -, -, h1, -⟩ := of_decide_eq_true hm
    obtain ⟨i1, i2⟩ := need_ok hn hnd2 h1
    exact met_of IH hm (hck g hm) i2 (by omega) i1 hq
