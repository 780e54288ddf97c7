/-! THE LAW'S OWN WALK: what the interpreter answers of it, the machine answers (own work) -/
/-- the memory at the start: the script alone -/
def scm (L : Nat) (xs : Nat → Int32) : Nat → Int → Int := fun k j => if k = 1000000 then (xs j.toNat).toInt else if k = 1000001 then (L : Int) else 0
theorem scm_scr {L : Nat} {xs : Nat → Int32} : SCR L xs (scm L xs) := by
  refine ⟨rfl, fun j _ => ?_⟩
  show (xs ((j : Int)).toNat).toInt = _
  rw [Int.toNat_natCast]
theorem law_code : (mtbs 356).1 = code := rfl
theorem law_ret : (mtbs 356).2.2.1 = ret := rfl
theorem law_name : (mtbs 356).2.1.name = "law" := rfl
theorem law_loc : (inf 356).1 = 4 := rfl
theorem law_rnm : rnm (mtbs 356).2.2.2.2 = "AgingPortraitLaw" := rfl
theorem law_rt : ret = some .boolean := rfl
set_option maxRecDepth 100000 in
theorem law_walk {p : Program} {e : Env} {s : State} {m : MethodId} {below : List Frame} {meth : Method} {c : Code} {Q : State → Prop} (l : Launch) {b L : Nat} {xs : Nat → Int32} (hL : L ≤ 3072) (hx : p.tables.exec = Jvm.exec) (hb : c.code = code) (hr : meth.sig.returnType = ret) (hml : c.maxLocals = 4) (hown : s.vm.findClass "AgingPortraitLaw" = some m.cls) (hts : ∀ w ∈ lw_tbl, w.before #[Value.ref b] s = true) (hX : va_X b L xs s s.heap) (hbl : b < s.heap.size) (hlk : meth.locks = false) (hgv : (Jvm.Cond.and given_1 narrow_1).before #[Value.ref b] s = true)
    (hret : ∀ (pc : Nat) (H : Heap) (ls : Array Slot), decode code pc = .ok (.ireturn, 1) → W p l e room_1 s m #[Value.ref b] below meth c H [] 600000 7302249 Q (F0 m pc ls [.int 1]))
    {fuel nd : Nat} {RLs : List Shp} {Rc : Nat → Int → Int} (hnd : 1 ≤ nd) (hnd2 : nd ≤ 840) (hrun : run fuel 356 nd 0 (mkl 4 [vR (-1)]) [] ([], scm L xs) = some (some (vI 1), (RLs, Rc))) (h1 : RLs.length ≤ 600000) (h2 : slz RLs ≤ 7302249) :
    W p l e room_1 s m #[Value.ref b] below meth c s.heap [] 0 0 Q (entryFrame m ([Value.ref b] : List Value).toArray 4) := by
  obtain ⟨X, hXb, hST⟩ := law_X hgv hts hX hbl hL
  obtain ⟨D, cA, hK⟩ := law_K hts
  have C : CX p s m #[Value.ref b] meth c 356 (fun q => s.heap.size ≤ q) D cA X L xs :=
    ⟨hx, hb, hml, hown, fun w hw => hts w (TB_lw w hw), hK, hST, fun q hq => hq, hr, hlk, fun h => absurd h (by rw [law_name]; decide)⟩
  have hP : va_P D vwCl (wsl (fun _ => 0) X cA [] (scm L xs)) s.heap := fun k q h => by simp [wsl] at h
  have hD : va_D (fun q : Nat => s.heap.size ≤ q) (wsl (fun _ => 0) X cA [] (scm L xs)) := ⟨fun i j p q h => by simp [wsl] at h, fun k q h => by simp [wsl] at h⟩
  have hfin : FIN p l e room_1 s m #[Value.ref b] below meth c Q 356 (fun q => s.heap.size ≤ q) D cA X L xs (fun _ => 0) 0 0 (some (vI 1), (RLs, Rc)) := by
    intro pc i ls st hk hd hl hac ad H locs lsM S
    obtain ⟨k, a, b', x⟩ := i
    have hk : k = 42 ∨ k = 55 ∨ k = 56 ∨ k = 57 ∨ k = 58 ∨ k = 59 ∨ k = 60 := hk
    have hl : rtk k (mtbs 356).2.2.1 = true := by
      rcases hk with q | q | q | q | q | q | q <;> subst q <;> exact hl
    rw [law_ret, law_rt] at hl
    rcases hk with q | q | q | q | q | q | q <;> subst q
    · exact absurd hl (by decide)
    · exact absurd hl (by decide)
    · exact absurd hl (by decide)
    · exact absurd hl (by decide)
    · have h9 := pI_inv hac
      clear hac
      obtain ⟨y, t, rfl, h⟩ := h9
      have h9 := pE_inv h
      clear h
      obtain ⟨rfl, h⟩ := h9
      have h9 := if_inv h
      clear h
      obtain ⟨hy, h⟩ := h9
      have hy1 : y = 1 := by
        have h3 := Option.some.inj h
        injection h3 with h3; injection h3 with h3; injection h3 with h3
        have h4 := Option.some.inj (Prod.mk.inj h3).1
        injection h4
      subst hy1
      refine va_forget (fun q hq => S.2.2.1.2.2 q hq) (W.widen (k := 600000) (n := 7302249) ?_ ?_ (hret pc H lsM hd))
      · exact Nat.le_trans (Nat.sub_le _ _) h1
      · exact Nat.le_trans (Nat.sub_le _ _) h2
    · exact absurd hl (by decide)
    · exact absurd hl (by decide)
  have K := walks fuel p l e room_1 s m #[Value.ref b] below meth c Q 356 (fun q => s.heap.size ≤ q) D cA X L xs (fun _ => 0) 0 0 nd (some (vI 1), (RLs, Rc)) C (ckm 356 (by omega)) hnd (by omega) ⟨Nat.le_trans hnd2 (by decide), Nat.le_trans (Nat.mul_le_mul_right 100 hnd2) (by decide)⟩ hfin (Nat.le_trans h1 (by decide)) (Nat.le_trans (Nat.sub_le _ _) h1) (Nat.le_trans (Nat.sub_le _ _) h2) 0 (mkl 4 [vR (-1)]) [] [] (scm L xs) hrun
    (fun _ => 0) s.heap [] ((lg_sl ([vR (-1)].map (mv (fun _ => 0) X)) ++ List.replicate (4 - (lg_sl ([vR (-1)].map (mv (fun _ => 0) X))).length) Slot.unset).toArray) ⟨hP, hD, va_S.rf, fun k s' h => by simp at h, scm_scr, ⟨Nat.le_refl _, Nat.le_refl _, fun _ _ => rfl⟩, entry_LR (n := 4) (by decide), fun v hv => by
      rcases mkl_mem _ _ v hv with q | q
      · rw [List.mem_singleton.mp q]
        show (-1 : Int) ≤ _
        simp
      · rw [q]; exact trivial, fun v hv => by cases hv⟩
  rw [lg_entry_eq]
  have e : ([vR (-1)] : List V).map (mv (fun _ => 0) X) = [Value.ref b] := by
    rw [← hXb]
    rfl
  rw [e] at K
  exact K
