/-! SOUNDNESS, 3: fields, arrays, text, what is made (own work): 14g.ops2 -/
section OPS
variable {p : Program} {l : Launch} {e : Env} {R : Room} {s : State} {m : MethodId} {args : Array Value} {below : List Frame} {meth : Method} {c0 : Code} {Q : State → Prop} {f : Nat} {A : Nat → Prop} {D : va_G} {cA : Nat → ClassId} {X : AdX} {n : Nat} {xs : Nat → Int32} {ad0 : Nat → Nat} {n0 z0 : Nat}
variable {ls st ls' st' : List V} {L : List Shp} {c : Nat → Int → Int} {M' : Mem} {pc a b : Nat} {x : Int}
theorem g_47 (C : CX p s m args meth c0 f A D cA X n xs) (hRf : 1 ≤ R.frames) (hRl : 100 ≤ R.locals) (hd : decode (mtbs f).1 pc = .ok (raw pc (47, a, b, x))) (hl : lnk (mtbs f).2.2.2.2 (mtbs f).2.2.1 (mtbs f).2.1.name (47, a, b, x) = true) (hs : oks (inf f).1 (47, a, b, x) = true) (h0 : act (47, a, b, x) ls st (L, c) = some (.inl (ls', st', M'))) (hL : M'.1.length ≤ 1000000) (hRc : M'.1.length - n0 ≤ R.cells) (hRs : slz M'.1 - z0 ≤ R.slots) (hk : WS p l e R s m args below meth c0 Q f A D cA X n xs ad0 n0 z0 (npc pc (47, a, b, x)) ls' st' M'.1 M'.2) : WS p l e R s m args below meth c0 Q f A D cA X n xs ad0 n0 z0 pc ls st L c := by
  intro ad H locs lsM S
  obtain ⟨hx, hb, hml, hown, hts, hK, hST, hA, hr, hlk, hnm⟩ := C
  have h : (some (.inl (ls, vR (-100 - (a : Int)) :: st, (L, c))) : Act) = some (.inl (ls', st', M')) := h0
  cases h
  have hl : lkS.any (fun q => Nat.beq q.1 (mtbs f).2.2.2.2 && (Nat.beq q.2.1 b && Nat.beq q.2.2.1 a)) = true := hl
  obtain ⟨z, hz⟩ := lkS_mem hl
  have ha12 : a < 12 := of_decide_eq_true (List.all_eq_true.mp lkS_lt ((mtbs f).2.2.2.2, b, a, z) hz)
  have K := hk ad H locs lsM (S.stk (vok_cons (show -100 - (a : Int) ≤ (L.length : Int) by omega) S.stv))
  have hv : vk_R (rnm (mtbs f).2.2.2.2) b (sTx a) (X.1 a) s := by
    have h9 := hST.2.1 ((mtbs f).2.2.2.2, b, a, z) hz
    exact h9
  have hd : decode (mtbs f).1 pc = .ok (.ldc b, 2) := hd
  exact va_ldcS (tx := sTx a) hx hb hown hv hd (W_top (mv_str ha12) K)
end OPS
