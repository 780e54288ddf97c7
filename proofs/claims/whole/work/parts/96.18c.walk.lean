/-! SOUNDNESS, 7c (own work) -/
section MAIN
variable {p : Program} {l : Launch} {e : Env} {R : Room} {s : State} {m : MethodId} {args : Array Value} {below : List Frame} {meth : Method} {c0 : Code} {Q : State → Prop} {f : Nat} {A : Nat → Prop} {D : va_G} {cA : Nat → ClassId} {X : AdX} {n : Nat} {xs : Nat → Int32} {ad0 : Nat → Nat} {n0 z0 : Nat}
variable {ls st ls' st' : List V} {L : List Shp} {c : Nat → Int → Int} {M' : Mem} {pc : Nat}
/-- the end of a method: its frame goes, its answer stays -/
def FIN (p : Program) (l : Launch) (e : Env) (R : Room) (s : State) (m : MethodId) (args : Array Value) (below : List Frame) (meth : Method) (c0 : Code) (Q : State → Prop) (f : Nat) (A : Nat → Prop) (D : va_G) (cA : Nat → ClassId) (X : AdX) (n : Nat) (xs : Nat → Int32) (ad0 : Nat → Nat) (n0 z0 : Nat) (Rv : Option V × Mem) : Prop :=
  ∀ (pc : Nat) (i : Ins) (ls st : List V), (i.1 = 42 ∨ i.1 = 55 ∨ i.1 = 56 ∨ i.1 = 57 ∨ i.1 = 58 ∨ i.1 = 59 ∨ i.1 = 60) → decode (mtbs f).1 pc = .ok (raw pc i) → lnk (mtbs f).2.2.2.2 (mtbs f).2.2.1 (mtbs f).2.1.name i = true → act i ls st Rv.2 = some (.inr (.inr (.inr Rv))) → WS p l e R s m args below meth c0 Q f A D cA X n xs ad0 n0 z0 pc ls st Rv.2.1 Rv.2.2
theorem walkL {n' nd : Nat} {Rv : Option V × Mem} (C : CX p s m args meth c0 f A D cA X n xs) (hnd : 1 ≤ nd) (hRn : nd ≤ R.frames ∧ nd * 100 ≤ R.locals) (hfin : FIN p l e R s m args below meth c0 Q f A D cA X n xs ad0 n0 z0 Rv)
    (hL : Rv.2.1.length ≤ 1000000) (hRc : Rv.2.1.length - n0 ≤ R.cells) (hRs : slz Rv.2.1 - z0 ≤ R.slots)
    (IHj : ∀ pc ls st L c, run n' f nd pc ls st (L, c) = some Rv → WS p l e R s m args below meth c0 Q f A D cA X n xs ad0 n0 z0 pc ls st L c)
    (IHc : ∀ g av L c q, run n' g (need g av) 0 (mkl (inf g).1 av) [] (L, c) = some q → need g av + 1 ≤ nd → mok1 g = true → CTR g (need g av) av L c q) :
    ∀ (il : List Ins) (pc : Nat) (ls st : List V) (L : List Shp) (c : Nat → Int → Int), chk (mtbs f).1 (mtbs f).2.2.2.2 (mtbs f).2.2.1 (mtbs f).2.1.name pc il = true → il.all (oks (inf f).1) = true →
      runL (fun pc' ls' st' M' => run n' f nd pc' (msk (blk f pc').1 ls') st' M') (fun g av M' => bif Nat.ble (need g av + 1) nd then run n' g (need g av) 0 (mkl (inf g).1 av) [] M' else none) il ls st (L, c) = some Rv → WS p l e R s m args below meth c0 Q f A D cA X n xs ad0 n0 z0 pc ls st L c := by
  intro il
  induction il with
  | nil => intro pc ls st L c _ _ h; exact absurd h (by simp [runL])
  | cons i il ih =>
    intro pc ls st L c hc ho h
    rw [List.all_cons, Bool.and_eq_true] at ho
    have hc : (bif Nat.beq i.1 16 then Nat.beq i.2.2.1 pc else decide (decode (mtbs f).1 pc = .ok (raw pc i)) && (lnk (mtbs f).2.2.2.2 (mtbs f).2.2.1 (mtbs f).2.1.name i && chk (mtbs f).1 (mtbs f).2.2.2.2 (mtbs f).2.2.1 (mtbs f).2.1.name (bif Nat.beq i.1 15 then i.2.2.1 else pc + (raw pc i).2) il)) = true := hc
    have h0 := h
    rw [runL_act] at h
    cases h16 : Nat.beq i.1 16 with
    | true =>
      rw [h16] at hc
      have hpc : i.2.2.1 = pc := beq_of hc
      have hi : i.1 = 16 := beq_of h16
      obtain ⟨k, a, b, x⟩ := i
      have hi : k = 16 := hi
      have hpc : b = pc := hpc
      subst hi; subst hpc
      exact (IHj _ _ _ _ _ h).mask
    | false =>
      rw [h16] at hc
      have hc : (decide (decode (mtbs f).1 pc = .ok (raw pc i)) && (lnk (mtbs f).2.2.2.2 (mtbs f).2.2.1 (mtbs f).2.1.name i && chk (mtbs f).1 (mtbs f).2.2.2.2 (mtbs f).2.2.1 (mtbs f).2.1.name (bif Nat.beq i.1 15 then i.2.2.1 else pc + (raw pc i).2) il)) = true := hc
      simp only [Bool.and_eq_true, decide_eq_true_eq] at hc
      obtain ⟨hd, hl, hc⟩ := hc
      have hgrow := act_grow i ls st (L, c)
      cases hac : act i ls st (L, c) with
      | none => rw [hac] at h; exact absurd h (by simp [elA])
      | some r =>
        rw [hac] at h
        have hg := hgrow r hac
        -- what goes on
        have hgo : ∀ ls' st' M', r = .inl (ls', st', M') → WS p l e R s m args below meth c0 Q f A D cA X n xs ad0 n0 z0 (npc pc i) ls' st' M'.1 M'.2 ∧ GR M' Rv.2 := by
          intro ls' st' M' hr
          subst hr
          have h : runL (fun pc' ls' st' M' => run n' f nd pc' (msk (blk f pc').1 ls') st' M') (fun g av M' => bif Nat.ble (need g av + 1) nd then run n' g (need g av) 0 (mkl (inf g).1 av) [] M' else none) il ls' st' M' = some Rv := h
          refine ⟨ih _ _ _ _ _ hc ho.2 h, runL_grow (fun p a b M R h => run_grow _ _ _ _ _ _ _ _ h) (fun g a M R h => run_grow _ _ _ _ _ _ _ _ (bif_inv h).2) _ _ _ _ _ h⟩
        have hju : ∀ p' ls' st' M', r = .inr (.inl (p', ls', st', M')) → WS p l e R s m args below meth c0 Q f A D cA X n xs ad0 n0 z0 p' ls' st' M'.1 M'.2 := by
          intro p' ls' st' M' hr
          subst hr
          exact (IHj _ _ _ _ _ h).mask
        by_cases hp : plain i.1 = true
        · obtain ⟨ls', st', M', hr⟩ := plain_inl hp hac
          obtain ⟨hk, hgr⟩ := hgo ls' st' M' hr
          subst hr
          have hg1 : M'.1.length ≤ Rv.2.1.length := hgr.1
          have hg2 : slz M'.1 ≤ slz Rv.2.1 := hgr.2
          exact g_all hp C (by omega) (by omega) hd hl ho.1 hac (by omega) (by omega) (by omega) hk
        · obtain ⟨k, a, b, x⟩ := i
          have hk16 : k ≠ 16 := fun w => by rw [w] at h16; cases h16
          have hcase : k = 12 ∨ k = 13 ∨ k = 14 ∨ k = 17 ∨ k = 39 ∨ (k = 42 ∨ k = 55 ∨ k = 56 ∨ k = 57 ∨ k = 58 ∨ k = 59 ∨ k = 60) := by
            have hp : ¬ plain k = true := hp
            unfold plain at hp
            simp only [Bool.not_eq_true, Bool.not_eq_false', Bool.or_eq_true] at hp
            rcases hp with (((((((((((q | q) | q) | q) | q) | q) | q) | q) | q) | q) | q) | q) | q <;> have q := beq_of q <;> omega
          rcases hcase with q | q | q | q | q | q
          · subst q; exact t_12 C hd hl hac (fun a b M h => (hgo a b M h).1) hju
          · subst q; exact t_13 C hd hl hac (fun a b M h => (hgo a b M h).1) hju
          · subst q; exact t_14 C hd hl hac (fun a b M h => (hgo a b M h).1) hju
          · subst q; exact t_17 C hd hl hac (fun a b M h => (hgo a b M h).1) hju
          · subst q
            obtain ⟨g, av, ls', t1, M1, hr⟩ := call_only hac
            subst hr
            have h : (bif Nat.ble (need g av + 1) nd then run n' g (need g av) 0 (mkl (inf g).1 av) [] M1 else none).elim none (fun q => runL (fun pc' ls' st' M' => run n' f nd pc' (msk (blk f pc').1 ls') st' M') (fun g av M' => bif Nat.ble (need g av + 1) nd then run n' g (need g av) 0 (mkl (inf g).1 av) [] M' else none) il ls' (pu q.1 t1) q.2) = some Rv := h
            obtain ⟨q, h1, h2⟩ := el_inv h
            obtain ⟨h3, h1⟩ := bif_inv h1
            have hnd3 := Nat.le_of_ble_eq_true h3
            have hM1 : M1 = (L, c) := hg
            subst hM1
            have hgr : GR q.2 Rv.2 := runL_grow (fun p a b M R h => run_grow _ _ _ _ _ _ _ _ h) (fun g a M R h => run_grow _ _ _ _ _ _ _ _ (bif_inv h).2) _ _ _ _ _ h2
            have hg1 : q.2.1.length ≤ Rv.2.1.length := hgr.1
            have hg2 : slz q.2.1 ≤ slz Rv.2.1 := hgr.2
            have hle : mok1 g = true := by
              have hl : (Nat.ble b 356 && (Nat.beq (a / 10 % 100) ((mtbs b).2.2.2.1 + (bif Nat.ble (a % 10) 1 then 0 else 1)) && (lkM (mtbs f).2.2.2.2).any (fun q => Nat.beq q.1 x.toNat && (Nat.beq q.2.1 a && Nat.beq q.2.2.1 b)))) = true := hl
              simp only [Bool.and_eq_true] at hl
              obtain ⟨-, -, hl⟩ := hl
              obtain ⟨z, hqm, hq3⟩ := List.any_eq_true.mp hl
              simp only [Bool.and_eq_true] at hq3
              have hok := List.all_eq_true.mp (lkM_ok (mtbs f).2.2.2.2) z hqm
              unfold lkMc at hok
              simp only [Bool.and_eq_true] at hok
              rw [← call_b hac, ← beq_of hq3.2.2]
              exact hok.1.1
            have hl3 : (raw pc (39, a, b, x)).2 = 3 := by unfold raw; dsimp only; split <;> first | omega | (split <;> rfl) | (exfalso; simp_all; done)
            have hc3 : chk (mtbs f).1 (mtbs f).2.2.2.2 (mtbs f).2.2.1 (mtbs f).2.1.name (pc + 3) il = true := by
              have hc : chk (mtbs f).1 (mtbs f).2.2.2.2 (mtbs f).2.2.1 (mtbs f).2.1.name (pc + (raw pc (39, a, b, x)).2) il = true := hc
              rw [hl3] at hc
              exact hc
            exact (g_39 C hRn hd hl hac hnd3 (IHc g av L c q h1 hnd3 hle) (run_grow _ _ _ _ _ _ _ _ h1) (by omega) (by omega) (by omega) (ih _ _ _ _ _ hc3 ho.2 h2)).2
          · obtain ⟨v, M1, hr⟩ := ret_only q hac
            subst hr
            have hM1 : M1 = (L, c) := hg
            subst hM1
            have h : (some (v, (L, c)) : Res) = some Rv := h
            have h := Option.some.inj h
            subst h
            exact hfin pc (k, a, b, x) ls st q hd hl hac
end MAIN
