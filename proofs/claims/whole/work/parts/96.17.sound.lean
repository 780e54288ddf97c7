/-! SOUNDNESS, 6: calls, and the whole of it: what the interpreter answers, the machine answers (own work) -/
def wsM (f : Nat) : List Cond := Cond.code (mtbs f).2.1 (mtbs f).1 (inf f).1 (mtbs f).2.2.1 :: TB
abbrev rmM (nd mc ms : Nat) : Room := { frames := nd, cells := mc, slots := ms, locals := nd * 100 }
def PcM (D : va_G) (cA : Nat → ClassId) (X : AdX) (n : Nat) (xs : Nat → Int32) (ad0 : Nat → Nat) (sz : Nat) (av : List V) (L : List Shp) (c : Nat → Int → Int) : Array Value → State → Prop :=
  va_Pc (av.map (mv ad0 X)) (fun U => U.heap.size = sz ∧ va_P D vwCl (wsl ad0 X cA L c) U.heap ∧ va_K D vwCl (tysOf cA) U ∧ va_D (fun _ => True) (wsl ad0 X cA L c) ∧ STR (va_A (wsl ad0 X cA L c) sz) X n xs U)
def QcM (D : va_G) (cA : Nat → ClassId) (X : AdX) (n : Nat) (xs : Nat → Int32) (ad0 : Nat → Nat) (sz : Nat) (L : List Shp) (c : Nat → Int → Int) (R : Option V × Mem) : Array Value → State → Outcome → State → Prop :=
  fun _ st oc t => (∃ ad' : Nat → Nat, oc = .returned (R.1.map (mv ad' X)) ∧ (∀ k, k < L.length → ad' k = ad0 k) ∧ va_P D vwCl (wsl ad' X cA R.2.1 R.2.2) t.heap ∧ va_D (va_A (wsl ad0 X cA L c) sz) (wsl ad' X cA R.2.1 R.2.2) ∧ mok R.2.1 R.2.2 ∧ SCR n xs R.2.2 ∧ ∀ v, R.1 = some v → vok R.2.1.length v) ∧ va_F (va_A (wsl ad0 X cA L c) sz) st t
/-- the contract of one call: what it answers is what the interpreter answers -/
def CTR (f nd : Nat) (av : List V) (L : List Shp) (c : Nat → Int → Int) (R : Option V × Mem) : Prop :=
  ∀ (l : Launch) (D : va_G) (cA : Nat → ClassId) (X : AdX) (n : Nat) (xs : Nat → Int32) (ad0 : Nat → Nat) (sz : Nat), mok L c → SCR n xs c → (∀ v ∈ av, vok L.length v) → R.2.1.length ≤ 1000000 →
    Met l (mtbs f).2.1 (wsM f) (rmM nd (R.2.1.length - L.length) (slz R.2.1 - slz L)) (PcM D cA X n xs ad0 sz av L c) (QcM D cA X n xs ad0 sz L c R) (R.2.1.length - L.length) (slz R.2.1 - slz L) (va_A (wsl ad0 X cA L c) sz)
theorem STR.go {A A' : Nat → Prop} {X : AdX} {n : Nat} {xs : Nat → Int32} {s U : State} {H : Heap} {locs : List Loc} (h : STR A X n xs s) (hS : va_S A s.heap H locs) (hA : ∀ q, A' q → A q) (hU : U.heap = H) (hW : s.WarmedH U.vm) : STR A' X n xs U := by
  obtain ⟨h1, h2, h3, h4, h5, h6, h7, h8, h9, h10, h11⟩ := h
  subst hU
  have hal := hW.alike
  refine ⟨((h1.kept hS.2.1).narrow hA).moved hal, fun q hq => (h2 q hq).warm hW, ((h3.kept hS.2.1).narrow hA).moved hal, ((h4.kept hS.2.1).narrow hA).moved hal, (h5.kept (hS.2.1 _ h6 h7)).moved hal, Nat.lt_of_lt_of_le h6 hS.1, fun z => h7 (hA _ z), h8, h9.moved hal, h10.moved hal, fun w idx y hw => (h11 w idx y hw).warmM hW⟩
theorem STR.blind {A : Nat → Prop} {X : AdX} {n : Nat} {xs : Nat → Int32} {U : State} (g : JFrame) (mk : MethodId) (a : Array Value) (h : STR A X n xs U) : STR A X n xs (U.calling g mk a) := by
  obtain ⟨h1, h2, h3, h4, h5, h6, h7, h8, h9, h10, h11⟩ := h
  have hal : U.vm.Alike (U.calling g mk a).vm := Vm.Alike.refl U.vm
  exact ⟨h1.moved hal, fun q hq => vk_R.same (u := U) rfl (h2 q hq), h3.moved hal, h4.moved hal, h5.moved hal, h6, h7, h8, h9.moved hal, h10.moved hal, fun w idx y hw => va_Nw.same rfl rfl (h11 w idx y hw)⟩
section CALL
variable {p : Program} {l : Launch} {e : Env} {R : Room} {s : State} {m : MethodId} {args : Array Value} {below : List Frame} {meth : Method} {c0 : Code} {Q : State → Prop} {f : Nat} {A : Nat → Prop} {D : va_G} {cA : Nat → ClassId} {X : AdX} {n : Nat} {xs : Nat → Int32} {ad0 : Nat → Nat} {n0 z0 : Nat}
variable {ls st ls' st' : List V} {L : List Shp} {c : Nat → Int → Int} {pc a b : Nat} {x : Int}
theorem va_callG {H : Heap} {locs : List Loc} {cells slots mc ms : Nat} {lsM : Array Slot} {st0 rest : List Value} {Qa : State → Outcome → State → Prop} {free : Addr → Prop} (hr : va_Run p l e R s m args below meth c0 H locs cells slots mc ms (F0 m pc lsM st0) rest Qa free)
    (kk : ∀ (v : Option Value) (st₀ t : State) (L1 : List Loc), st₀.heap = H → Qa st₀ (.returned v) t → (∀ q ∈ L1, free q.base) → W p l e R s m args below meth c0 t.heap (locs ++ L1) (cells + mc) (slots + ms) Q (F0 m (pc + 3) lsM (v.toList ++ rest))) : W p l e R s m args below meth c0 H locs cells slots Q (F0 m pc lsM st0) := by
  intro T hT X1
  obtain ⟨v, st₀, t, T', L1, h0, X', hL, e1, e2, hq, st⟩ := hr T hT X1
  obtain ⟨t2, a1, b1⟩ := kk v st₀ t L1 h0 hq hL T' e1 X'
  exact ⟨t2, st t2 a1, b1⟩
theorem PcM.blind {sz : Nat} {av : List V} : FrameBlind (PcM D cA X n xs ad0 sz av L c) := by
  intro a U g mk h
  obtain ⟨h1, h2, h3, h4, h5, h6⟩ := h
  exact ⟨h1, h2, h3, va_K.moved (u := U) (U := U.calling g mk a) (Vm.Alike.refl U.vm) h4, h5, h6.blind g mk a⟩
theorem A_sub {ad : Nat → Nat} {H : Heap} {locs : List Loc} {lsM : Array Slot} (S : SR f A s D cA X n xs ad0 n0 z0 ad ls st L c H locs lsM) (hA : ∀ q, s.heap.size ≤ q → A q) : ∀ q, va_A (wsl ad X cA L c) H.size q → A q := by
  intro q hq
  rcases hq with ⟨k, e, h⟩ | h
  · exact S.2.1.2 k _ h
  · exact hA q (Nat.le_trans S.2.2.1.1 h)
/-- ahead of a call: what the callee wants -/
theorem pre_ok {ad : Nat → Nat} {H : Heap} {locs : List Loc} {lsM : Array Slot} {av : List V} (S : SR f A s D cA X n xs ad0 n0 z0 ad ls st L c H locs lsM) (hA : ∀ q, s.heap.size ≤ q → A q) (hK : va_K D vwCl (tysOf cA) s) (hST : STR A X n xs s) : ∀ U : State, U.heap = H → s.WarmedH U.vm → PcM D cA X n xs ad H.size av L c (av.map (mv ad X)).toArray U := by
  intro U hU hW
  exact ⟨rfl, by rw [hU], by rw [hU]; exact S.1, va_K.moved hW.alike hK, S.2.1.weaken (fun _ _ _ _ => trivial), hST.go S.2.2.1 (A_sub S hA) hU hW⟩
/-- behind a call -/
theorem behind {ad : Nat → Nat} {H : Heap} {locs L1 : List Loc} {lsM : Array Slot} {av : List V} {q : Option V × Mem} {v : Option Value} {st₀ t : State} {t1 : List V} (S : SR f A s D cA X n xs ad0 n0 z0 ad ls st L c H locs lsM) (hA : ∀ q, s.heap.size ≤ q → A q) (hg : GR (L, c) q.2) (h0 : st₀.heap = H) (hq : QcM D cA X n xs ad H.size L c q (av.map (mv ad X)).toArray st₀ (.returned v) t) (hL1 : ∀ z ∈ L1, va_A (wsl ad X cA L c) H.size z.base) (ht : ∀ w ∈ t1, vok L.length w) :
    ∃ ad' : Nat → Nat, v = q.1.map (mv ad' X) ∧ SR f A s D cA X n xs ad0 n0 z0 ad' ls (pu q.1 t1) q.2.1 q.2.2 t.heap (locs ++ L1) lsM ∧ t1.map (mv ad' X) = t1.map (mv ad X) := by
  obtain ⟨⟨ad', e1, e2, e3, e4, e5, e6, e7⟩, eF⟩ := hq
  have hsub := A_sub S hA
  have hv : v = q.1.map (mv ad' X) := Outcome.returned.inj e1
  have hlen : L.length ≤ q.2.1.length := hg.1
  refine ⟨ad', hv, ⟨e3, e4.weaken (fun k z _ hz => hsub z.1 hz), ?_, e5, e6, ⟨Nat.le_trans S.2.2.2.2.2.1.1 hlen, Nat.le_trans S.2.2.2.2.2.1.2.1 hg.2, fun k hk => ?_⟩, ?_, fun w hw => vok_mono hlen (S.lsv w hw), ?_⟩, ?_⟩
  · obtain ⟨f1, f2⟩ := eF
    rw [h0] at f1 f2
    refine ⟨Nat.le_trans S.2.2.1.1 f1, fun z h1 h2 => ?_, fun z hz => ?_⟩
    · rw [f2 z (Nat.lt_of_lt_of_le h1 S.2.2.1.1) (fun w => h2 (hsub z w))]
      exact S.2.2.1.2.1 z h1 h2
    · rcases List.mem_append.mp hz with h | h
      · exact S.2.2.1.2.2 z h
      · exact hsub _ (hL1 z h)
  · rw [e2 k (Nat.lt_of_lt_of_le hk S.2.2.2.2.2.1.1)]
    exact S.2.2.2.2.2.1.2.2 k hk
  · obtain ⟨g1, g2, g3, g4⟩ := S.lr
    refine ⟨g1, g2, g3, fun i w hw hty => ?_⟩
    rw [mv_keep e2 (S.lsv w (List.mem_of_getElem? hw))]
    exact g4 i w hw hty
  · intro w hw
    cases hq1 : q.1 with
    | none => rw [hq1] at hw; exact vok_mono hlen (ht w hw)
    | some u =>
      rw [hq1] at hw
      rcases List.mem_cons.mp hw with h | h
      · rw [h]; exact e7 u hq1
      · exact vok_mono hlen (ht w h)
  · exact List.map_congr_left fun w hw => mv_keep e2 (ht w hw)
theorem pu_map {ad' : Nat → Nat} {o : Option V} {t1 : List V} : (pu o t1).map (mv ad' X) = (o.map (mv ad' X)).toList ++ t1.map (mv ad' X) := by
  cases o <;> rfl
theorem rcv_inv {α : Type} {kd rk : Nat} {av : List V} {y : Option α} {r : α} (h : rcv none kd rk L av y = some r) : y = some r ∧ (kd = 2 ∨ kd = 3 → ∃ (k : Nat) (sh : Shp) (t : List V), av = vR ((k : Int) + 1) :: t ∧ L[k]? = some sh ∧ sh.1 = rk) ∧ (kd = 4 ∨ kd = 5 → ∃ (k : Nat) (sh : Shp) (t : List V), av = vR ((k : Int) + 1) :: t ∧ L[k]? = some sh) ∧ (kd = 6 → ∃ (g : Nat) (t : List V), av = vR (-100 - (g : Int)) :: t ∧ g < 12) ∧ kd ≤ 6 := by
  rcases kd with _ | _ | _ | _ | _ | _ | _ | kd
  · exact ⟨h, fun q => by omega, fun q => by omega, fun q => by omega, by omega⟩
  · exact ⟨h, fun q => by omega, fun q => by omega, fun q => by omega, by omega⟩
  · rcases av with _ | ⟨z | z | z | z, t⟩
    · exact absurd h (by simp [rcv])
    · exact absurd h (by simp [rcv])
    · exact absurd h (by simp [rcv])
    · obtain ⟨q, h1, h2⟩ := el_inv (show (drf L z).elim none (fun p => bif Nat.beq p.2.1 rk then y else none) = some r from h)
      obtain ⟨h3, h4⟩ := bif_inv h2
      obtain ⟨h5, h6⟩ := drf_inv h1
      subst h5
      exact ⟨h4, fun _ => ⟨_, _, _, rfl, h6, beq_of h3⟩, fun q => by omega, fun q => by omega, by omega⟩
    · exact absurd h (by simp [rcv])
  · rcases av with _ | ⟨z | z | z | z, t⟩
    · exact absurd h (by simp [rcv])
    · exact absurd h (by simp [rcv])
    · exact absurd h (by simp [rcv])
    · obtain ⟨q, h1, h2⟩ := el_inv (show (drf L z).elim none (fun p => bif Nat.beq p.2.1 rk then y else none) = some r from h)
      obtain ⟨h3, h4⟩ := bif_inv h2
      obtain ⟨h5, h6⟩ := drf_inv h1
      subst h5
      exact ⟨h4, fun _ => ⟨_, _, _, rfl, h6, beq_of h3⟩, fun q => by omega, fun q => by omega, by omega⟩
    · exact absurd h (by simp [rcv])
  · rcases av with _ | ⟨z | z | z | z, t⟩
    · exact absurd h (by simp [rcv])
    · exact absurd h (by simp [rcv])
    · exact absurd h (by simp [rcv])
    · obtain ⟨q, h1, h2⟩ := el_inv (show (drf L z).elim none (fun _ => y) = some r from h)
      obtain ⟨h5, h6⟩ := drf_inv h1
      subst h5
      exact ⟨h2, fun q => by omega, fun _ => ⟨_, _, _, rfl, h6⟩, fun q => by omega, by omega⟩
    · exact absurd h (by simp [rcv])
  · rcases av with _ | ⟨z | z | z | z, t⟩
    · exact absurd h (by simp [rcv])
    · exact absurd h (by simp [rcv])
    · exact absurd h (by simp [rcv])
    · obtain ⟨q, h1, h2⟩ := el_inv (show (drf L z).elim none (fun _ => y) = some r from h)
      obtain ⟨h5, h6⟩ := drf_inv h1
      subst h5
      exact ⟨h2, fun q => by omega, fun _ => ⟨_, _, _, rfl, h6⟩, fun q => by omega, by omega⟩
    · exact absurd h (by simp [rcv])
  · rcases av with _ | ⟨z | z | z | z, t⟩
    · exact absurd h (by simp [rcv])
    · exact absurd h (by simp [rcv])
    · exact absurd h (by simp [rcv])
    · obtain ⟨q, h1, h2⟩ := el_inv (show (strOf z).elim none (fun _ => y) = some r from h)
      obtain ⟨h5, h6⟩ := strOf_inv h1
      subst h5
      exact ⟨h2, fun q => by omega, fun q => by omega, fun _ => ⟨_, _, rfl, h6⟩, by omega⟩
    · exact absurd h (by simp [rcv])
  · exact absurd h (by simp [rcv])
theorem kd7 {k : Nat} (h : k ≤ 6) : k = 0 ∨ k = 1 ∨ k = 2 ∨ k = 3 ∨ k = 4 ∨ k = 5 ∨ k = 6 := by omega
theorem ar1 {n l q r : Nat} (h1 : n ≤ l) (h2 : l ≤ q) (h3 : q - n ≤ r) : l - n + (q - l) ≤ r := by omega
theorem ar2 {n l q : Nat} (h1 : n ≤ l) (h2 : l ≤ q) : q - n = l - n + (q - l) := by omega
theorem TB_in {g : Nat} (h : MCD g) : GoodIn TB (wsM g) := by
  intro w hw
  rcases List.mem_cons.mp hw with q | q
  · rw [q]; exact ⟨h, TB_good _ h⟩
  · exact ⟨q, TB_good _ q⟩
/-- a call -/
theorem g_39 (C : CX p s m args meth c0 f A D cA X n xs) {nd : Nat} (hRn : nd ≤ R.frames ∧ nd * 100 ≤ R.locals) (hd : decode (mtbs f).1 pc = .ok (raw pc (39, a, b, x))) (hl : lnk (mtbs f).2.2.2.2 (mtbs f).2.2.1 (mtbs f).2.1.name (39, a, b, x) = true) {g : Nat} {av t1 : List V} {M1 : Mem} (h : act (39, a, b, x) ls st (L, c) = some (.inr (.inr (.inl (g, av, ls', t1, M1))))) {q : Option V × Mem} (hnd : need g av + 1 ≤ nd) (hrun : CTR g (need g av) av L c q) (hgr : GR (L, c) q.2) (hL : q.2.1.length ≤ 1000000) (hRc : q.2.1.length - n0 ≤ R.cells) (hRs : slz q.2.1 - z0 ≤ R.slots) (hk : WS p l e R s m args below meth c0 Q f A D cA X n xs ad0 n0 z0 (pc + 3) ls' (pu q.1 t1) q.2.1 q.2.2) : M1 = (L, c) ∧ WS p l e R s m args below meth c0 Q f A D cA X n xs ad0 n0 z0 pc ls st L c := by
  have h : (bif Nat.ble (a / 10 % 100) st.length && Nat.ble (catS (st.drop (a / 10 % 100))) 8 then rcv none (a % 10) (a / 1000) L (st.take (a / 10 % 100)).reverse (some (.inr (.inr (.inl (b, (st.take (a / 10 % 100)).reverse, ls, st.drop (a / 10 % 100), (L, c)))))) else none : Act) = some (.inr (.inr (.inl (g, av, ls', t1, M1)))) := h
  obtain ⟨h1, h⟩ := bif_inv h
  rw [Bool.and_eq_true] at h1
  have hna := Nat.le_of_ble_eq_true h1.1
  have hcs := Nat.le_of_ble_eq_true h1.2
  obtain ⟨h, hk23, hk45, hk6, hkd⟩ := rcv_inv h
  have h := Option.some.inj h
  injection h with h; injection h with h; injection h with h
  obtain ⟨hbg, h6⟩ := Prod.mk.inj h
  obtain ⟨hav, h7⟩ := Prod.mk.inj h6
  obtain ⟨hls, h8⟩ := Prod.mk.inj h7
  obtain ⟨ht1, hM1⟩ := Prod.mk.inj h8
  clear h6 h7 h8
  subst hbg
  subst hls
  refine ⟨hM1.symm, ?_⟩
  intro ad H locs lsM S
  obtain ⟨hx, hb, hml, hown, hts, hK, hST, hA, hr, hlk, hnm⟩ := C
  rw [hav] at hk23 hk45 hk6
  generalize hnn : a / 10 % 100 = na at *
  -- the stack in two
  have est : st.map (mv ad X) = (av.map (mv ad X)).reverse ++ t1.map (mv ad X) := by
    rw [← List.map_reverse, ← hav, List.reverse_reverse, ← ht1, ← List.map_append, List.take_append_drop]
  have hvav : ∀ w ∈ av, vok L.length w := fun w hw => by
    rw [← hav, List.mem_reverse] at hw
    exact S.stv w (List.mem_of_mem_take hw)
  have hvt : ∀ w ∈ t1, vok L.length w := fun w hw => by
    rw [← ht1] at hw
    exact S.stv w (List.mem_of_mem_drop hw)
  have hlav : av.length = na := by rw [← hav, List.length_reverse, List.length_take]; omega
  have hcat := catS_le (ad := ad) (X := X) t1
  rw [ht1] at hcs
  have hroom : 2 * (F0 m pc lsM (st.map (mv ad X))).monitorRoom + ((t1.map (mv ad X)).map fun v => v.category).sum ≤ 8 := lv_room (by omega)
  -- the words
  have hl : (Nat.ble b 356 && (Nat.beq (a / 10 % 100) ((mtbs b).2.2.2.1 + (bif Nat.ble (a % 10) 1 then 0 else 1)) && (lkM (mtbs f).2.2.2.2).any (fun q => Nat.beq q.1 x.toNat && (Nat.beq q.2.1 a && Nat.beq q.2.2.1 b)))) = true := hl
  simp only [Bool.and_eq_true] at hl
  obtain ⟨-, hpar, hl⟩ := hl
  have hpar := beq_of hpar
  rw [hnn] at hpar
  obtain ⟨⟨idx, a', b', p1, p2, p3, p4⟩, hqm, hq3⟩ := List.any_eq_true.mp hl
  simp only [Bool.and_eq_true] at hq3
  obtain ⟨q1, q2, q3⟩ := hq3
  have q1 : idx = x.toNat := beq_of q1
  have q2 : a = a' := (beq_of q2).symm
  have q3 : b = b' := (beq_of q3).symm
  subst q1; subst q2; subst q3
  have hok := List.all_eq_true.mp (lkM_ok (mtbs f).2.2.2.2) _ hqm
  unfold lkMc at hok
  simp only [Bool.and_eq_true] at hok
  obtain ⟨⟨hm1, hwords⟩, hkind⟩ := hok
  obtain ⟨o1, o2, o3, o4, o5, o6, o7, o8⟩ := of_decide_eq_true hm1
  have hmcd : MCD b := mcd b o8
  have hwd : ∀ z ∈ lmw (mtbs f).2.2.2.2 (x.toNat, a, b, p1, p2, p3, p4), tbw z.1 = some z.2 := fun z hz => of_decide_eq_true (List.all_eq_true.mp hwords z hz)
  have hini : (Cond.initialized (mtbs b).2.1.cls).before args s = true := hts _ (tbg (hwd (p4, _) List.mem_cons_self) rfl)
  have hM := hrun l D cA X n xs ad H.size S.2.2.2.1 S.2.2.2.2.1 hvav hL
  have hgood := TB_in hmcd
  have hfix : CallFix p m c0 (mtbs f).1 (inf f).1 s args TB (rnm (mtbs f).2.2.2.2) := ⟨hx, hb, hml, hown, hts⟩
  have hro : (rmM (need b av) (q.2.1.length - L.length) (slz q.2.1 - slz L)).frames + 1 ≤ R.frames ∧ 8 + ((inf b).1 + 11) + (rmM (need b av) (q.2.1.length - L.length) (slz q.2.1 - slz L)).locals ≤ R.locals := by
    refine ⟨Nat.le_trans hnd hRn.1, Nat.le_trans ?_ hRn.2⟩
    show 8 + ((inf b).1 + 11) + need b av * 100 ≤ nd * 100
    omega
  have b1 : n0 ≤ L.length := S.2.2.2.2.2.1.1
  have b2 : z0 ≤ slz L := S.2.2.2.2.2.1.2.1
  have g1 : L.length ≤ q.2.1.length := hgr.1
  have g2 : slz L ≤ slz q.2.1 := hgr.2
  have hroom2 : L.length - n0 + (q.2.1.length - L.length) ≤ R.cells ∧ slz L - z0 + (slz q.2.1 - slz L) ≤ R.slots := ⟨ar1 b1 g1 hRc, ar1 b2 g2 hRs⟩
  have key : ∀ (v : Option Value) (st₀ t : State) (L1 : List Loc), st₀.heap = H → QcM D cA X n xs ad H.size L c q (av.map (mv ad X)).toArray st₀ (.returned v) t → (∀ z ∈ L1, va_A (wsl ad X cA L c) H.size z.base) → W p l e R s m args below meth c0 t.heap (locs ++ L1) (L.length - n0 + (q.2.1.length - L.length)) (slz L - z0 + (slz q.2.1 - slz L)) Q (F0 m (pc + 3) lsM (v.toList ++ t1.map (mv ad X))) := by
    intro v st₀ t L1 h0 hq hL1
    obtain ⟨ad', hv, S2, et⟩ := behind (f := f) (A := A) (s := s) (ad0 := ad0) (n0 := n0) (z0 := z0) (ls := ls) (st := st) (t1 := t1) S hA hgr h0 hq hL1 hvt
    have K := hk ad' t.heap (locs ++ L1) lsM S2
    have f1 : q.2.1.length - n0 = L.length - n0 + (q.2.1.length - L.length) := ar2 b1 g1
    have f2 : slz q.2.1 - z0 = slz L - z0 + (slz q.2.1 - slz L) := ar2 b2 g2
    rw [f1, f2, pu_map, ← hv, et] at K
    exact K
  have hsz : (F0 m pc lsM (st.map (mv ad X))).locals.size = (inf f).1 := S.lr.2.1
  have hpre := pre_ok (av := av) S hA hK hST
  rcases kd7 hkd with hk7 | hk7 | hk7 | hk7 | hk7 | hk7 | hk7
  · -- static
    have hw1 := hts _ (tbg (hwd (p1, Cond.methodLink (rnm (mtbs f).2.2.2.2) x.toNat (mtbs b).2.1) (by unfold lmw; dsimp only; rw [hk7]; simp)) rfl)
    have hw2 := hts _ (tbg (hwd (p2, Cond.static (mtbs b).2.1) (by unfold lmw; dsimp only; rw [hk7]; simp)) rfl)
    have hd : decode (mtbs f).1 pc = .ok (.invokestatic x.toNat, 3) := by rw [hd]; unfold raw; dsimp only; rw [hk7] <;> rfl
    rw [hk7] at hpar
    have hpar : na = (mtbs b).2.2.2.1 := hpar
    exact va_callG (va_runS (n := (mtbs b).2.2.2.1) (g := F0 m pc lsM (st.map (mv ad X))) hfix hM ⟨callB_of _ hts hgood rfl rfl rfl hini hw1 ⟨o3, o4, o5⟩ hro, hw2⟩ ⟨PcM.blind, hpre⟩ rfl (by rw [List.length_map, hlav, hpar]) hsz est hroom hd hroom2) key
  · have hw1 := hST.2.2.2.2.2.2.2.2.2.2 _ _ _ (tbw_mem (hwd (p1, Cond.methodLinkNest (rnm (mtbs f).2.2.2.2) x.toNat (mtbs b).2.1 RX11) (by unfold lmw; dsimp only; rw [hk7]; simp)))
    have hw2 := hts _ (tbg (hwd (p2, Cond.static (mtbs b).2.1) (by unfold lmw; dsimp only; rw [hk7]; simp)) rfl)
    have hd : decode (mtbs f).1 pc = .ok (.invokestatic x.toNat, 3) := by rw [hd]; unfold raw; dsimp only; rw [hk7] <;> rfl
    rw [hk7] at hpar
    have hpar : na = (mtbs b).2.2.2.1 := hpar
    exact va_callG (va_runSN (n := (mtbs b).2.2.2.1) (g := F0 m pc lsM (st.map (mv ad X))) hfix hM ⟨va_cnB _ hts hgood rfl rfl rfl hw1 hini ⟨o3, o4, o5⟩ hro, hw2, trivial⟩ ⟨PcM.blind, hpre⟩ rfl (by rw [List.length_map, hlav, hpar]) hsz est hroom hd hroom2) key
  · obtain ⟨k, sh, t, e1, e2, e3⟩ := hk23 (Or.inl hk7)
    have hw1 := hts _ (tbg (hwd (p1, Cond.methodLink (rnm (mtbs f).2.2.2.2) x.toNat (mtbs b).2.1) (by unfold lmw; dsimp only; rw [hk7]; simp)) rfl)
    have hw2 := hts _ (tbg (hwd (p2, Cond.instanceMethod (mtbs b).2.1) (by unfold lmw; dsimp only; rw [hk7]; simp)) rfl)
    have hw3 := hts _ (tbg (hwd (p3, Cond.selects (mtbs b).2.1.cls (mtbs b).2.1 (mtbs b).2.1) (by unfold lmw; dsimp only; rw [hk7]; simp)) rfl)
    have hd : decode (mtbs f).1 pc = .ok (.invokevirtual x.toNat, 3) := by rw [hd]; unfold raw; dsimp only; rw [hk7] <;> rfl
    rw [hk7] at hpar hkind
    have hpar : na = (mtbs b).2.2.2.1 + 1 := hpar
    have hkind : (Nat.beq (a / 1000) (10 + (mtbs b).2.2.2.2) && Nat.ble (mtbs b).2.2.2.2 12) = true := hkind
    rw [Bool.and_eq_true] at hkind
    have hk8 := beq_of hkind.1
    have hk9 := Nat.le_of_ble_eq_true hkind.2
    obtain ⟨qc, ty, hC⟩ := cls_all _ hk9
    have he := wsl_at (ad := ad) (X := X) (cA := cA) (c := c) e2
    rw [ent_5 (by omega), e3, hk8, Nat.add_sub_cancel_left] at he
    have hrc := va_recv hK S.1 hC.1 he
    rw [hC.2.1, ← o2] at hrc
    subst e1
    have est : st.map (mv ad X) = (t.map (mv ad X)).reverse ++ .ref (ad k) :: t1.map (mv ad X) := by rw [est, List.map_cons, List.reverse_cons, List.append_assoc]; rfl
    have hlt : (t.map (mv ad X)).length = (mtbs b).2.2.2.1 := by
      have : (vR ((k : Int) + 1) :: t).length = t.length + 1 := rfl
      rw [List.length_map]
      omega
    exact va_callG (va_runV (n := (mtbs b).2.2.2.1) (C := (mtbs b).2.1.cls) (b := ad k) (As := t.map (mv ad X)) (g := F0 m pc lsM (st.map (mv ad X))) hfix hM ⟨callB_of _ hts hgood rfl rfl rfl hini hw1 ⟨o3, o4, o5⟩ hro, hw2, hw3⟩ ⟨PcM.blind, hrc, hpre⟩ rfl hlt hsz est hroom hd hroom2) key
  · obtain ⟨k, sh, t, e1, e2, e3⟩ := hk23 (Or.inr hk7)
    have hw1 := hST.2.2.2.2.2.2.2.2.2.2 _ _ _ (tbw_mem (hwd (p1, Cond.methodLinkNest (rnm (mtbs f).2.2.2.2) x.toNat (mtbs b).2.1 RX11) (by unfold lmw; dsimp only; rw [hk7]; simp)))
    have hw2 := hts _ (tbg (hwd (p2, Cond.instanceMethod (mtbs b).2.1) (by unfold lmw; dsimp only; rw [hk7]; simp)) rfl)
    have hw3 := hts _ (tbg (hwd (p3, Cond.selects (mtbs b).2.1.cls (mtbs b).2.1 (mtbs b).2.1) (by unfold lmw; dsimp only; rw [hk7]; simp)) rfl)
    have hd : decode (mtbs f).1 pc = .ok (.invokevirtual x.toNat, 3) := by rw [hd]; unfold raw; dsimp only; rw [hk7] <;> rfl
    rw [hk7] at hpar hkind
    have hpar : na = (mtbs b).2.2.2.1 + 1 := hpar
    have hkind : (Nat.beq (a / 1000) (10 + (mtbs b).2.2.2.2) && Nat.ble (mtbs b).2.2.2.2 12) = true := hkind
    rw [Bool.and_eq_true] at hkind
    have hk8 := beq_of hkind.1
    have hk9 := Nat.le_of_ble_eq_true hkind.2
    obtain ⟨qc, ty, hC⟩ := cls_all _ hk9
    have he := wsl_at (ad := ad) (X := X) (cA := cA) (c := c) e2
    rw [ent_5 (by omega), e3, hk8, Nat.add_sub_cancel_left] at he
    have hrc := va_recv hK S.1 hC.1 he
    rw [hC.2.1, ← o2] at hrc
    subst e1
    have est : st.map (mv ad X) = (t.map (mv ad X)).reverse ++ .ref (ad k) :: t1.map (mv ad X) := by rw [est, List.map_cons, List.reverse_cons, List.append_assoc]; rfl
    have hlt : (t.map (mv ad X)).length = (mtbs b).2.2.2.1 := by
      have : (vR ((k : Int) + 1) :: t).length = t.length + 1 := rfl
      rw [List.length_map]
      omega
    exact va_callG (va_runVN (n := (mtbs b).2.2.2.1) (C := (mtbs b).2.1.cls) (b := ad k) (As := t.map (mv ad X)) (g := F0 m pc lsM (st.map (mv ad X))) hfix hM ⟨va_cnB _ hts hgood rfl rfl rfl hw1 hini ⟨o3, o4, o5⟩ hro, hw2, hw3⟩ ⟨PcM.blind, hrc, hpre⟩ rfl hlt hsz est hroom hd hroom2) key
  · obtain ⟨k, sh, t, e1, e2⟩ := hk45 (Or.inl hk7)
    have hw1 := hts _ (tbg (hwd (p1, Cond.methodLink (rnm (mtbs f).2.2.2.2) x.toNat (mtbs b).2.1) (by unfold lmw; dsimp only; rw [hk7]; simp)) rfl)
    have hw2 := hts _ (tbg (hwd (p2, Cond.instanceMethod (mtbs b).2.1) (by unfold lmw; dsimp only; rw [hk7]; simp)) rfl)
    have hd : decode (mtbs f).1 pc = .ok (.invokespecial x.toNat, 3) := by rw [hd]; unfold raw; dsimp only; rw [hk7] <;> rfl
    rw [hk7] at hpar hkind
    have hpar : na = (mtbs b).2.2.2.1 + 1 := hpar
    obtain ⟨hn1, hn2⟩ := of_decide_eq_true hkind
    subst e1
    have est : st.map (mv ad X) = (t.map (mv ad X)).reverse ++ .ref (ad k) :: t1.map (mv ad X) := by rw [est, List.map_cons, List.reverse_cons, List.append_assoc]; rfl
    have hlt : (t.map (mv ad X)).length = (mtbs b).2.2.2.1 := by
      have : (vR ((k : Int) + 1) :: t).length = t.length + 1 := rfl
      rw [List.length_map]
      omega
    have hw9 : wsM b = Cond.code (mtbs b).2.1 (mtbs b).1 (inf b).1 none :: TB := by unfold wsM; rw [hn2]
    exact va_callG (va_runI (n := (mtbs b).2.2.2.1) (bytes := (mtbs b).1) (maxL := (inf b).1) (b := ad k) (As := t.map (mv ad X)) (g := F0 m pc lsM (st.map (mv ad X))) hfix hM ⟨callB_of _ hts hgood hw9 rfl rfl hini hw1 ⟨o3, o4, o5⟩ hro, hn1, hw2⟩ ⟨PcM.blind, hpre⟩ rfl hlt hsz est hroom hd hroom2) key
  · obtain ⟨k, sh, t, e1, e2⟩ := hk45 (Or.inr hk7)
    have hw1 := hST.2.2.2.2.2.2.2.2.2.2 _ _ _ (tbw_mem (hwd (p1, Cond.methodLinkNest (rnm (mtbs f).2.2.2.2) x.toNat (mtbs b).2.1 RX11) (by unfold lmw; dsimp only; rw [hk7]; simp)))
    have hw2 := hts _ (tbg (hwd (p2, Cond.instanceMethod (mtbs b).2.1) (by unfold lmw; dsimp only; rw [hk7]; simp)) rfl)
    have hd : decode (mtbs f).1 pc = .ok (.invokespecial x.toNat, 3) := by rw [hd]; unfold raw; dsimp only; rw [hk7] <;> rfl
    rw [hk7] at hpar hkind
    have hpar : na = (mtbs b).2.2.2.1 + 1 := hpar
    obtain ⟨hn1, hn2⟩ := of_decide_eq_true hkind
    subst e1
    have est : st.map (mv ad X) = (t.map (mv ad X)).reverse ++ .ref (ad k) :: t1.map (mv ad X) := by rw [est, List.map_cons, List.reverse_cons, List.append_assoc]; rfl
    have hlt : (t.map (mv ad X)).length = (mtbs b).2.2.2.1 := by
      have : (vR ((k : Int) + 1) :: t).length = t.length + 1 := rfl
      rw [List.length_map]
      omega
    have hw9 : wsM b = Cond.code (mtbs b).2.1 (mtbs b).1 (inf b).1 none :: TB := by unfold wsM; rw [hn2]
    exact va_callG (va_runIN (n := (mtbs b).2.2.2.1) (bytes := (mtbs b).1) (maxL := (inf b).1) (b := ad k) (As := t.map (mv ad X)) (g := F0 m pc lsM (st.map (mv ad X))) hfix hM ⟨va_cnB _ hts hgood hw9 rfl rfl hw1 hini ⟨o3, o4, o5⟩ hro, hn1, hw2⟩ ⟨PcM.blind, hpre⟩ rfl hlt hsz est hroom hd hroom2) key
  · obtain ⟨gs, t, e1, e2⟩ := hk6 hk7
    have hw1 := hts _ (tbg (hwd (p1, Cond.methodLink (rnm (mtbs f).2.2.2.2) x.toNat (mtbs b).2.1) (by unfold lmw; dsimp only; rw [hk7]; simp)) rfl)
    have hw2 := hts _ (tbg (hwd (p2, Cond.instanceMethod (mtbs b).2.1) (by unfold lmw; dsimp only; rw [hk7]; simp)) rfl)
    have hw3 := hts _ (tbg (hwd (p3, Cond.selects (mtbs b).2.1.cls (mtbs b).2.1 (mtbs b).2.1) (by unfold lmw; dsimp only; rw [hk7]; simp)) rfl)
    have hd : decode (mtbs f).1 pc = .ok (.invokevirtual x.toNat, 3) := by rw [hd]; unfold raw; dsimp only; rw [hk7] <;> rfl
    rw [hk7] at hpar hkind
    have hpar : na = (mtbs b).2.2.2.1 + 1 := hpar
    have hcls : (mtbs b).2.1.cls = "java/lang/String" := of_decide_eq_true hkind
    have hrc := vk_recv hST.1 e2 S.2.2.1
    rw [← hcls] at hrc
    subst e1
    have est : st.map (mv ad X) = (t.map (mv ad X)).reverse ++ .ref (X.1 gs) :: t1.map (mv ad X) := by rw [est, List.map_cons, mv_str e2, List.reverse_cons, List.append_assoc]; rfl
    have hlt : (t.map (mv ad X)).length = (mtbs b).2.2.2.1 := by
      have : (vR (-100 - (gs : Int)) :: t).length = t.length + 1 := rfl
      rw [List.length_map]
      omega
    have hpre2 : ∀ U : State, U.heap = H → s.WarmedH U.vm → PcM D cA X n xs ad H.size (vR (-100 - (gs : Int)) :: t) L c (Value.ref (X.1 gs) :: t.map (mv ad X)).toArray U := by
      intro U h1 h2
      have := hpre U h1 h2
      rw [List.map_cons, mv_str e2] at this
      exact this
    rw [List.map_cons, mv_str e2] at key
    exact va_callG (va_runV (n := (mtbs b).2.2.2.1) (C := (mtbs b).2.1.cls) (b := X.1 gs) (As := t.map (mv ad X)) (g := F0 m pc lsM (st.map (mv ad X))) hfix hM ⟨callB_of _ hts hgood rfl rfl rfl hini hw1 ⟨o3, o4, o5⟩ hro, hw2, hw3⟩ ⟨PcM.blind, hrc, hpre2⟩ rfl hlt hsz est hroom hd hroom2) key
end CALL
