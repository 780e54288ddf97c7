/-! SOUNDNESS, 4: branches (own work) -/
theorem swc_inv {l0 : List (Int × Nat)} {y : Int} {d : Nat} {g : Nat → Act} {r : (List V × List V × Mem) ⊕ (Nat × List V × List V × Mem) ⊕ (Nat × List V × List V × List V × Mem) ⊕ (Option V × Mem)} (h : swc y g d l0 = some r) : ∃ z, ((∃ j : Nat, l0[j]? = some (y, z)) ∨ (z = d ∧ ∀ q ∈ l0, q.1 ≠ y)) ∧ g z = some r := by
  induction l0 with
  | nil => exact ⟨d, Or.inr ⟨rfl, fun q hq => by cases hq⟩, h⟩
  | cons q l0 ih =>
    obtain ⟨v, t⟩ := q
    have h9 : (if y = v then g t else swc y g d l0) = some r := h
    clear h
    have h := h9
    clear h9
    by_cases hv : y = v
    · rw [if_pos hv] at h
      subst hv
      exact ⟨t, Or.inl ⟨0, rfl⟩, h⟩
    · rw [if_neg hv] at h
      obtain ⟨z, hz, h⟩ := ih h
      refine ⟨z, ?_, h⟩
      rcases hz with ⟨j, hj⟩ | ⟨hz, hno⟩
      · exact Or.inl ⟨j + 1, hj⟩
      · refine Or.inr ⟨hz, fun q hq => ?_⟩
        rcases List.mem_cons.mp hq with q1 | q1
        · rw [q1]; exact fun w => hv w.symm
        · exact hno q q1
def swk (a : Nat) : Bool := match (swt a).1 with
  | [] => false
  | (lo, _) :: _ => (List.range (swt a).1.length).all (fun j => decide (((swt a).1[j]?).map (fun q => q.1) = some (lo + (j : Int)))) && decide ((((swt a).1.getLast?.map (fun q => q.1)).getD 0) = lo + ((swt a).1.length : Int) - 1)
theorem swk_all : (List.range 13).all swk = true := by decide +kernel
theorem swt_ok (a : Nat) (ha : a ≤ 12) : ∃ lo : Int, 0 < (swt a).1.length ∧ (((swt a).1.head?.map (fun q => q.1)).getD 0) = lo ∧ (((swt a).1.getLast?.map (fun q => q.1)).getD 0) = lo + ((swt a).1.length : Int) - 1 ∧ ∀ (j : Nat) (q : Int × Nat), (swt a).1[j]? = some q → q.1 = lo + (j : Int) := by
  have h := List.all_eq_true.mp swk_all a (List.mem_range.mpr (by omega))
  unfold swk at h
  generalize hl : (swt a).1 = l0 at h ⊢
  cases l0 with
  | nil => exact absurd h (by simp)
  | cons q l0 =>
    obtain ⟨lo, t⟩ := q
    have h : ((List.range ((lo, t) :: l0).length).all (fun j => decide ((((lo, t) :: l0)[j]?).map (fun q => q.1) = some (lo + (j : Int)))) && decide (((((lo, t) :: l0).getLast?.map (fun q => q.1)).getD 0) = lo + (((lo, t) :: l0).length : Int) - 1)) = true := h
    rw [Bool.and_eq_true] at h
    refine ⟨lo, Nat.succ_pos _, rfl, of_decide_eq_true h.2, fun j q hq => ?_⟩
    have hj : j < ((lo, t) :: l0).length := (List.getElem?_eq_some_iff.mp hq).1
    have h3 := of_decide_eq_true (List.all_eq_true.mp h.1 j (List.mem_range.mpr hj))
    rw [hq] at h3
    exact Option.some.inj h3
section OPS
variable {p : Program} {l : Launch} {e : Env} {R : Room} {s : State} {m : MethodId} {args : Array Value} {below : List Frame} {meth : Method} {c0 : Code} {Q : State → Prop} {f : Nat} {A : Nat → Prop} {D : va_G} {cA : Nat → ClassId} {X : AdX} {n : Nat} {xs : Nat → Int32} {ad0 : Nat → Nat} {n0 z0 : Nat}
variable {ls st ls' st' : List V} {L : List Shp} {c : Nat → Int → Int} {M' : Mem} {pc a b : Nat} {x : Int}
theorem t_12 {r : (List V × List V × Mem) ⊕ (Nat × List V × List V × Mem) ⊕ (Nat × List V × List V × List V × Mem) ⊕ (Option V × Mem)} (C : CX p s m args meth c0 f A D cA X n xs) (hd : decode (mtbs f).1 pc = .ok (raw pc (12, a, b, x))) (hl : lnk (mtbs f).2.2.2.2 (mtbs f).2.2.1 (mtbs f).2.1.name (12, a, b, x) = true) (h0 : act (12, a, b, x) ls st (L, c) = some r) (hg : ∀ ls' st' M', r = .inl (ls', st', M') → WS p l e R s m args below meth c0 Q f A D cA X n xs ad0 n0 z0 (npc pc (12, a, b, x)) ls' st' M'.1 M'.2) (hj : ∀ p' ls' st' M', r = .inr (.inl (p', ls', st', M')) → WS p l e R s m args below meth c0 Q f A D cA X n xs ad0 n0 z0 p' ls' st' M'.1 M'.2) : WS p l e R s m args below meth c0 Q f A D cA X n xs ad0 n0 z0 pc ls st L c := by
  intro ad H locs lsM S
  obtain ⟨hx, hb, hml, hown, hts, hK, hST, hA, hr, hlk, hnm⟩ := C
  have h9 := pI_inv h0
  clear h0
  obtain ⟨y, t, rfl, h⟩ := h9
  have hy : In32 y := vok_hd S.stv
  have ht := vok_tl S.stv
  rcases a with _ | _ | _ | _ | _ | _ | a
  · have h : (if y = 0 then (some (.inr (.inl (b, ls, t, (L, c)))) : Act) else (some (.inl (ls, t, (L, c))) : Act)) = some r := h
    refine lv_if_eq (tgt := b) (off := (b : Int) - pc) hx hb hd (by omega) (fun q => ?_) (fun q => ?_)
    · have q2 : y = 0 := by
        exact (o32_inj hy in32_0).mp (q.trans o32_0.symm)
      rw [if_pos q2] at h
      cases h
      exact hj _ _ _ _ rfl ad H locs lsM (S.stk ht)
    · have q2 : ¬ y = 0 := by
        exact fun z => q ((congrArg Int32.ofInt z).trans o32_0)
      rw [if_neg q2] at h
      cases h
      exact hg _ _ _ rfl ad H locs lsM (S.stk ht)
  · have h : (if y = 0 then (some (.inl (ls, t, (L, c))) : Act) else (some (.inr (.inl (b, ls, t, (L, c)))) : Act)) = some r := h
    refine lv_if_ne (tgt := b) (off := (b : Int) - pc) hx hb hd (by omega) (fun q => ?_) (fun q => ?_)
    · have q2 : ¬ y = 0 := by
        exact fun z => q ((congrArg Int32.ofInt z).trans o32_0)
      rw [if_neg q2] at h
      cases h
      exact hj _ _ _ _ rfl ad H locs lsM (S.stk ht)
    · have q2 : y = 0 := by
        exact (o32_inj hy in32_0).mp (q.trans o32_0.symm)
      rw [if_pos q2] at h
      cases h
      exact hg _ _ _ rfl ad H locs lsM (S.stk ht)
  · have h : (if y < 0 then (some (.inr (.inl (b, ls, t, (L, c)))) : Act) else (some (.inl (ls, t, (L, c))) : Act)) = some r := h
    refine lv_if_lt (tgt := b) (off := (b : Int) - pc) hx hb hd (by omega) (fun q => ?_) (fun q => ?_)
    · have q2 : y < 0 := by
        rw [← o32_0] at q
        exact (o32_lt hy in32_0).mp q
      rw [if_pos q2] at h
      cases h
      exact hj _ _ _ _ rfl ad H locs lsM (S.stk ht)
    · have q2 : ¬ y < 0 := by
        rw [← o32_0] at q
        exact fun z => q ((o32_lt hy in32_0).mpr z)
      rw [if_neg q2] at h
      cases h
      exact hg _ _ _ rfl ad H locs lsM (S.stk ht)
  · have h : (if y < 0 then (some (.inl (ls, t, (L, c))) : Act) else (some (.inr (.inl (b, ls, t, (L, c)))) : Act)) = some r := h
    refine lv_if_ge (tgt := b) (off := (b : Int) - pc) hx hb hd (by omega) (fun q => ?_) (fun q => ?_)
    · have q2 : ¬ y < 0 := by
        rw [← o32_0] at q
        have q := (o32_le in32_0 hy).mp q
        omega
      rw [if_neg q2] at h
      cases h
      exact hj _ _ _ _ rfl ad H locs lsM (S.stk ht)
    · have q2 : y < 0 := by
        rw [← o32_0] at q
        have q : ¬ 0 ≤ y := fun z => q ((o32_le in32_0 hy).mpr z)
        omega
      rw [if_pos q2] at h
      cases h
      exact hg _ _ _ rfl ad H locs lsM (S.stk ht)
  · have h : (if 0 < y then (some (.inr (.inl (b, ls, t, (L, c)))) : Act) else (some (.inl (ls, t, (L, c))) : Act)) = some r := h
    refine lv_if_gt (tgt := b) (off := (b : Int) - pc) hx hb hd (by omega) (fun q => ?_) (fun q => ?_)
    · have q2 : 0 < y := by
        rw [← o32_0] at q
        exact (o32_lt in32_0 hy).mp q
      rw [if_pos q2] at h
      cases h
      exact hj _ _ _ _ rfl ad H locs lsM (S.stk ht)
    · have q2 : ¬ 0 < y := by
        rw [← o32_0] at q
        exact fun z => q ((o32_lt in32_0 hy).mpr z)
      rw [if_neg q2] at h
      cases h
      exact hg _ _ _ rfl ad H locs lsM (S.stk ht)
  · have h : (if 0 < y then (some (.inl (ls, t, (L, c))) : Act) else (some (.inr (.inl (b, ls, t, (L, c)))) : Act)) = some r := h
    refine lv_if_le (tgt := b) (off := (b : Int) - pc) hx hb hd (by omega) (fun q => ?_) (fun q => ?_)
    · have q2 : ¬ 0 < y := by
        rw [← o32_0] at q
        have q := (o32_le hy in32_0).mp q
        omega
      rw [if_neg q2] at h
      cases h
      exact hj _ _ _ _ rfl ad H locs lsM (S.stk ht)
    · have q2 : 0 < y := by
        rw [← o32_0] at q
        have q : ¬ y ≤ 0 := fun z => q ((o32_le hy in32_0).mpr z)
        omega
      rw [if_pos q2] at h
      cases h
      exact hg _ _ _ rfl ad H locs lsM (S.stk ht)
  · have : Nat.ble (a + 6) 5 = true := hl
    exact absurd (Nat.le_of_ble_eq_true this) (by omega)
theorem t_13 {r : (List V × List V × Mem) ⊕ (Nat × List V × List V × Mem) ⊕ (Nat × List V × List V × List V × Mem) ⊕ (Option V × Mem)} (C : CX p s m args meth c0 f A D cA X n xs) (hd : decode (mtbs f).1 pc = .ok (raw pc (13, a, b, x))) (hl : lnk (mtbs f).2.2.2.2 (mtbs f).2.2.1 (mtbs f).2.1.name (13, a, b, x) = true) (h0 : act (13, a, b, x) ls st (L, c) = some r) (hg : ∀ ls' st' M', r = .inl (ls', st', M') → WS p l e R s m args below meth c0 Q f A D cA X n xs ad0 n0 z0 (npc pc (13, a, b, x)) ls' st' M'.1 M'.2) (hj : ∀ p' ls' st' M', r = .inr (.inl (p', ls', st', M')) → WS p l e R s m args below meth c0 Q f A D cA X n xs ad0 n0 z0 p' ls' st' M'.1 M'.2) : WS p l e R s m args below meth c0 Q f A D cA X n xs ad0 n0 z0 pc ls st L c := by
  intro ad H locs lsM S
  obtain ⟨hx, hb, hml, hown, hts, hK, hST, hA, hr, hlk, hnm⟩ := C
  have h9 := pI_inv h0
  clear h0
  obtain ⟨w, t, rfl, h⟩ := h9
  have h9 := pI_inv h
  clear h
  obtain ⟨y, t, rfl, h⟩ := h9
  have hw : In32 w := vok_hd S.stv
  have hy : In32 y := vok_hd (vok_tl S.stv)
  have ht := vok_tl (vok_tl S.stv)
  rcases a with _ | _ | _ | _ | _ | _ | a
  · have h : (if y = w then (some (.inr (.inl (b, ls, t, (L, c)))) : Act) else (some (.inl (ls, t, (L, c))) : Act)) = some r := h
    refine lv_icmp_eq (tgt := b) (off := (b : Int) - pc) hx hb hd (by omega) (fun q => ?_) (fun q => ?_)
    · have q2 : y = w := by
        exact (o32_inj hy hw).mp q
      rw [if_pos q2] at h
      cases h
      exact hj _ _ _ _ rfl ad H locs lsM (S.stk ht)
    · have q2 : ¬ y = w := by
        exact fun z => q ((o32_inj hy hw).mpr z)
      rw [if_neg q2] at h
      cases h
      exact hg _ _ _ rfl ad H locs lsM (S.stk ht)
  · have h : (if y = w then (some (.inl (ls, t, (L, c))) : Act) else (some (.inr (.inl (b, ls, t, (L, c)))) : Act)) = some r := h
    refine lv_icmp_ne (tgt := b) (off := (b : Int) - pc) hx hb hd (by omega) (fun q => ?_) (fun q => ?_)
    · have q2 : ¬ y = w := by
        exact fun z => q ((o32_inj hy hw).mpr z)
      rw [if_neg q2] at h
      cases h
      exact hj _ _ _ _ rfl ad H locs lsM (S.stk ht)
    · have q2 : y = w := by
        exact (o32_inj hy hw).mp q
      rw [if_pos q2] at h
      cases h
      exact hg _ _ _ rfl ad H locs lsM (S.stk ht)
  · have h : (if y < w then (some (.inr (.inl (b, ls, t, (L, c)))) : Act) else (some (.inl (ls, t, (L, c))) : Act)) = some r := h
    refine lv_icmp_lt (tgt := b) (off := (b : Int) - pc) hx hb hd (by omega) (fun q => ?_) (fun q => ?_)
    · have q2 : y < w := by
        exact (o32_lt hy hw).mp q
      rw [if_pos q2] at h
      cases h
      exact hj _ _ _ _ rfl ad H locs lsM (S.stk ht)
    · have q2 : ¬ y < w := by
        exact fun z => q ((o32_lt hy hw).mpr z)
      rw [if_neg q2] at h
      cases h
      exact hg _ _ _ rfl ad H locs lsM (S.stk ht)
  · have h : (if y < w then (some (.inl (ls, t, (L, c))) : Act) else (some (.inr (.inl (b, ls, t, (L, c)))) : Act)) = some r := h
    refine lv_icmp_ge (tgt := b) (off := (b : Int) - pc) hx hb hd (by omega) (fun q => ?_) (fun q => ?_)
    · have q2 : ¬ y < w := by
        have q := (o32_le hw hy).mp q
        omega
      rw [if_neg q2] at h
      cases h
      exact hj _ _ _ _ rfl ad H locs lsM (S.stk ht)
    · have q2 : y < w := by
        have q : ¬ w ≤ y := fun z => q ((o32_le hw hy).mpr z)
        omega
      rw [if_pos q2] at h
      cases h
      exact hg _ _ _ rfl ad H locs lsM (S.stk ht)
  · have h : (if w < y then (some (.inr (.inl (b, ls, t, (L, c)))) : Act) else (some (.inl (ls, t, (L, c))) : Act)) = some r := h
    refine lv_icmp_gt (tgt := b) (off := (b : Int) - pc) hx hb hd (by omega) (fun q => ?_) (fun q => ?_)
    · have q2 : w < y := by
        exact (o32_lt hw hy).mp q
      rw [if_pos q2] at h
      cases h
      exact hj _ _ _ _ rfl ad H locs lsM (S.stk ht)
    · have q2 : ¬ w < y := by
        exact fun z => q ((o32_lt hw hy).mpr z)
      rw [if_neg q2] at h
      cases h
      exact hg _ _ _ rfl ad H locs lsM (S.stk ht)
  · have h : (if w < y then (some (.inl (ls, t, (L, c))) : Act) else (some (.inr (.inl (b, ls, t, (L, c)))) : Act)) = some r := h
    refine lv_icmp_le (tgt := b) (off := (b : Int) - pc) hx hb hd (by omega) (fun q => ?_) (fun q => ?_)
    · have q2 : ¬ w < y := by
        have q := (o32_le hy hw).mp q
        omega
      rw [if_neg q2] at h
      cases h
      exact hj _ _ _ _ rfl ad H locs lsM (S.stk ht)
    · have q2 : w < y := by
        have q : ¬ y ≤ w := fun z => q ((o32_le hy hw).mpr z)
        omega
      rw [if_pos q2] at h
      cases h
      exact hg _ _ _ rfl ad H locs lsM (S.stk ht)
  · have : Nat.ble (a + 6) 5 = true := hl
    exact absurd (Nat.le_of_ble_eq_true this) (by omega)
theorem t_14 {r : (List V × List V × Mem) ⊕ (Nat × List V × List V × Mem) ⊕ (Nat × List V × List V × List V × Mem) ⊕ (Option V × Mem)} (C : CX p s m args meth c0 f A D cA X n xs) (hd : decode (mtbs f).1 pc = .ok (raw pc (14, a, b, x))) (hl : lnk (mtbs f).2.2.2.2 (mtbs f).2.2.1 (mtbs f).2.1.name (14, a, b, x) = true) (h0 : act (14, a, b, x) ls st (L, c) = some r) (hg : ∀ ls' st' M', r = .inl (ls', st', M') → WS p l e R s m args below meth c0 Q f A D cA X n xs ad0 n0 z0 (npc pc (14, a, b, x)) ls' st' M'.1 M'.2) (hj : ∀ p' ls' st' M', r = .inr (.inl (p', ls', st', M')) → WS p l e R s m args below meth c0 Q f A D cA X n xs ad0 n0 z0 p' ls' st' M'.1 M'.2) : WS p l e R s m args below meth c0 Q f A D cA X n xs ad0 n0 z0 pc ls st L c := by
  intro ad H locs lsM S
  obtain ⟨hx, hb, hml, hown, hts, hK, hST, hA, hr, hlk, hnm⟩ := C
  have h9 := pR_inv h0
  clear h0
  obtain ⟨y, t, rfl, h⟩ := h9
  have ht := vok_tl S.stv
  have h8 : (if y = 0 then (some (.inl (ls, t, (L, c))) : Act) else pD none L y (fun _ _ => some (.inr (.inl (b, ls, t, (L, c)))))) = some r := h
  clear h
  have h := h8
  clear h8
  by_cases q : y = 0
  · rw [if_pos q] at h
    cases h
    subst q
    exact lv_ifnonnullN hx hb hd (hg _ _ _ rfl ad H locs lsM (S.stk ht))
  · rw [if_neg q] at h
    have h9 := pD_inv h
    clear h
    obtain ⟨k, sh, hk0, rfl, h⟩ := h9
    cases h
    exact lv_ifnonnull (tgt := b) (off := (b : Int) - pc) hx hb hd (by omega) (hj _ _ _ _ rfl ad H locs lsM (S.stk ht))
theorem t_17 {r : (List V × List V × Mem) ⊕ (Nat × List V × List V × Mem) ⊕ (Nat × List V × List V × List V × Mem) ⊕ (Option V × Mem)} (C : CX p s m args meth c0 f A D cA X n xs) (hd : decode (mtbs f).1 pc = .ok (raw pc (17, a, b, x))) (hl : lnk (mtbs f).2.2.2.2 (mtbs f).2.2.1 (mtbs f).2.1.name (17, a, b, x) = true) (h0 : act (17, a, b, x) ls st (L, c) = some r) (hg : ∀ ls' st' M', r = .inl (ls', st', M') → WS p l e R s m args below meth c0 Q f A D cA X n xs ad0 n0 z0 (npc pc (17, a, b, x)) ls' st' M'.1 M'.2) (hj : ∀ p' ls' st' M', r = .inr (.inl (p', ls', st', M')) → WS p l e R s m args below meth c0 Q f A D cA X n xs ad0 n0 z0 p' ls' st' M'.1 M'.2) : WS p l e R s m args below meth c0 Q f A D cA X n xs ad0 n0 z0 pc ls st L c := by
  intro ad H locs lsM S
  obtain ⟨hx, hb, hml, hown, hts, hK, hST, hA, hr, hlk, hnm⟩ := C
  have h9 := pI_inv h0
  clear h0
  obtain ⟨y, t, rfl, h⟩ := h9
  have hy : In32 y := vok_hd S.stv
  have ht := vok_tl S.stv
  have h : swc y (fun t' => (some (.inr (.inl (t', ls, t, (L, c)))) : Act)) (swt a).2 (swt a).1 = some r := h
  have h9 := swc_inv h
  clear h
  obtain ⟨z, hz, h⟩ := h9
  cases h
  have ha12 : a ≤ 12 := Nat.le_of_ble_eq_true hl
  obtain ⟨lo, hlen, hlo, hhi, hall⟩ := swt_ok a ha12
  have K := hj _ _ _ _ rfl ad H locs lsM (S.stk ht)
  have hd : decode (mtbs f).1 pc = .ok (.tableswitch (((swt a).2 : Int) - pc) (((swt a).1.head?.map (fun q => q.1)).getD 0) (((swt a).1.getLast?.map (fun q => q.1)).getD 0) (((swt a).1.map (fun q => (q.2 : Int) - pc)).toArray), x.toNat) := hd
  rw [hlo, hhi] at hd
  rcases hz with ⟨j, hj2⟩ | ⟨hz, hno⟩
  · have hq := hall j _ hj2
    have hq : y = lo + (j : Int) := hq
    have hjl : j < (swt a).1.length := (List.getElem?_eq_some_iff.mp hj2).1
    refine lv_tableIn (tgt := z) (off := (z : Int) - pc) hx hb hd (by rw [t32 hy]; omega) (by rw [t32 hy]; omega) ?_ (by omega) K
    rw [t32 hy]
    have : (y - lo).toNat = j := by omega
    rw [this, List.getElem?_toArray, List.getElem?_map, hj2]
    rfl
  · subst hz
    refine lv_tableOut (tgt := (swt a).2) hx hb hd ?_ (by omega) K
    rw [t32 hy]
    by_cases q1 : y < lo
    · exact Or.inl q1
    · right
      have hlt : ¬ y ≤ lo + ((swt a).1.length : Int) - 1 := by
        intro q2
        have hjl : (y - lo).toNat < (swt a).1.length := by omega
        have e9 := hall (y - lo).toNat _ (List.getElem?_eq_getElem hjl)
        exact hno _ (List.getElem_mem hjl) (by rw [e9]; omega)
      omega
end OPS
