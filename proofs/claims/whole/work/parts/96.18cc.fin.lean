/-! SOUNDNESS, 7d (own work) -/
section MAIN
variable {p : Program} {l : Launch} {e : Env} {R : Room} {s : State} {m : MethodId} {args : Array Value} {below : List Frame} {meth : Method} {c0 : Code} {Q : State → Prop} {f : Nat} {A : Nat → Prop} {D : va_G} {cA : Nat → ClassId} {X : AdX} {n : Nat} {xs : Nat → Int32} {ad0 : Nat → Nat} {n0 z0 : Nat}
variable {ls st ls' st' : List V} {L : List Shp} {c : Nat → Int → Int} {M' : Mem} {pc : Nat}
theorem nar_char {y : Int} (h : 0 ≤ y ∧ y < 65536) : narrow .char (.int (Int32.ofInt y)) = .int (Int32.ofInt y) := by
  show Value.int (Int32.ofInt y).toUInt32.toUInt16.toUInt32.toInt32 = .int (Int32.ofInt y)
  congr 1
  apply Int32.toBitVec_inj.mp
  show BitVec.setWidth 32 (BitVec.setWidth 16 (BitVec.ofInt 32 y)) = BitVec.ofInt 32 y
  apply BitVec.eq_of_toNat_eq
  rw [BitVec.toNat_setWidth, BitVec.toNat_setWidth, BitVec.toNat_ofInt]
  omega
theorem nar_byte {y : Int} (h : -128 ≤ y ∧ y < 128) : narrow .byte (.int (Int32.ofInt y)) = .int (Int32.ofInt y) := by
  show Value.int (Int32.ofInt y).toInt8.toInt32 = .int (Int32.ofInt y)
  congr 1
  have hy : In32 y := ⟨by omega, by omega⟩
  rw [← Int32.toInt_inj, Int8.toInt_toInt32, Int32.toInt_toInt8, t32 hy]
  exact Int.bmod_eq_of_le (by omega) (by omega)
/-- the end of a method that is called -/
theorem fin_met {Rv : Option V × Mem} {av : List V} {L : List Shp} {c : Nat → Int → Int} (C : CX p s m args meth c0 f (va_A (wsl ad0 X cA L c) s.heap.size) D cA X n xs) : FIN p l e R s m args below meth c0 (MQ below (QcM D cA X n xs ad0 s.heap.size L c Rv) args s (Rv.2.1.length - L.length) (slz Rv.2.1 - slz L) (va_A (wsl ad0 X cA L c) s.heap.size)) f (va_A (wsl ad0 X cA L c) s.heap.size) D cA X n xs ad0 L.length (slz L) Rv := by
  obtain ⟨hx, hb, hml, hown, hts, hK, hST, hA, hr, hlk, hnm⟩ := C
  obtain ⟨rv, L', c'⟩ := Rv
  intro pc i ls st hk hd hl hac ad H locs lsM S
  have key : ∀ t : State, t.heap = H → (∀ v, rv = some v → vok L'.length v) → QcM D cA X n xs ad0 s.heap.size L c (rv, (L', c')) args s (.returned (rv.map (mv ad X))) t := by
    intro t ht hv
    exact ⟨⟨ad, rfl, S.2.2.2.2.2.1.2.2, by rw [ht]; exact S.1, S.2.1, S.2.2.2.1, S.2.2.2.2.1, hv⟩, S.2.2.1.F ht⟩
  obtain ⟨k, a, b, x⟩ := i
  have hk : k = 42 ∨ k = 55 ∨ k = 56 ∨ k = 57 ∨ k = 58 ∨ k = 59 ∨ k = 60 := hk
  · rcases hk with q | q | q | q | q | q | q <;> subst q
    · have h9 := pE_inv (show pE none st (some (.inr (.inr (.inr (none, (L', c'))))) : Act) = _ from hac)
      clear hac
      obtain ⟨rfl, h⟩ := h9
      cases h
      have hrt : (mtbs f).2.2.1 = none := by
        have hl : rtk 42 (mtbs f).2.2.1 = true := hl
        generalize (mtbs f).2.2.1 = r at hl
        unfold rtk at hl
        split at hl <;> simp_all
      exact W.vret hx hb (hr.trans hrt) (fun t ht _ => key t ht (fun v hv => by cases hv)) S.2.2.1.2.2 hd
    · have h9 := pI_inv hac
      clear hac
      obtain ⟨y, t, rfl, h⟩ := h9
      have h9 := pE_inv (show pE none t (some (.inr (.inr (.inr (some (vI y), (L', c'))))) : Act) = _ from h)
      clear h
      obtain ⟨rfl, h⟩ := h9
      cases h
      have hrt : (mtbs f).2.2.1 = some .int := by
        have hl : rtk 55 (mtbs f).2.2.1 = true := hl
        generalize (mtbs f).2.2.1 = r at hl
        unfold rtk at hl
        split at hl <;> simp_all
      exact W.iret hx hb (hr.trans hrt) (fun t ht _ => key t ht (fun v hv => by cases hv; exact vok_hd S.stv)) S.2.2.1.2.2 hd
    · have h9 := pL_inv hac
      clear hac
      obtain ⟨y, t, rfl, h⟩ := h9
      have h9 := pE_inv (show pE none t (some (.inr (.inr (.inr (some (vL y), (L', c'))))) : Act) = _ from h)
      clear h
      obtain ⟨rfl, h⟩ := h9
      cases h
      have hrt : (mtbs f).2.2.1 = some .long := by
        have hl : rtk 56 (mtbs f).2.2.1 = true := hl
        generalize (mtbs f).2.2.1 = r at hl
        unfold rtk at hl
        split at hl <;> simp_all
      exact W.lret hx hb (hr.trans hrt) (fun t ht _ => key t ht (fun v hv => by cases hv; exact vok_hd S.stv)) S.2.2.1.2.2 hd
    · have h9 := pR_inv hac
      clear hac
      obtain ⟨y, t, rfl, h⟩ := h9
      have h9 := pE_inv (show pE none t (some (.inr (.inr (.inr (some (vR y), (L', c'))))) : Act) = _ from h)
      clear h
      obtain ⟨rfl, h⟩ := h9
      cases h
      obtain ⟨Cn, hrt⟩ : ∃ Cn, (mtbs f).2.2.1 = some (.object Cn) := by
        have hl : rtk 57 (mtbs f).2.2.1 = true := hl
        generalize (mtbs f).2.2.1 = r at hl
        unfold rtk at hl
        split at hl <;> first | exact ⟨_, rfl⟩ | simp_all
      have K : W p l e R s m args below meth c0 H locs (L'.length - L.length) (slz L' - slz L) (MQ below (QcM D cA X n xs ad0 s.heap.size L c (some (vR y), (L', c'))) args s (L'.length - L.length) (slz L' - slz L) (va_A (wsl ad0 X cA L c) s.heap.size)) (F0 m pc lsM [va_rf (rof ad X y)]) := by
        have hv9 : mv ad X (vR y) = .null ∨ ∃ a, mv ad X (vR y) = .ref a := by
          show va_rf (rof ad X y) = .null ∨ ∃ a, va_rf (rof ad X y) = .ref a
          cases rof ad X y with
          | none => exact Or.inl rfl
          | some a => exact Or.inr ⟨a, rfl⟩
        exact W.aret hx hb (hr.trans hrt) (Or.inl ⟨Cn, rfl⟩) hv9 (fun t ht _ => key t ht (fun v hv => by cases hv; exact vok_hd S.stv)) S.2.2.1.2.2 hd
      exact K
    · have h9 := pI_inv hac
      clear hac
      obtain ⟨y, t, rfl, h⟩ := h9
      have h9 := pE_inv h
      clear h
      obtain ⟨rfl, h⟩ := h9
      have h9 := if_inv h
      clear h
      obtain ⟨hy, h⟩ := h9
      cases h
      have hrt : (mtbs f).2.2.1 = some .boolean := by
        have hl : rtk 58 (mtbs f).2.2.1 = true := hl
        generalize (mtbs f).2.2.1 = r at hl
        unfold rtk at hl
        split at hl <;> simp_all
      exact W.zret hx hb (hr.trans hrt) (by rcases hy with q | q <;> subst q <;> rfl) (fun t ht _ => key t ht (fun v hv => by cases hv; exact vok_hd S.stv)) S.2.2.1.2.2 hd
    · have h9 := pI_inv hac
      clear hac
      obtain ⟨y, t, rfl, h⟩ := h9
      have h9 := pE_inv h
      clear h
      obtain ⟨rfl, h⟩ := h9
      have h9 := if_inv h
      clear h
      obtain ⟨hy, h⟩ := h9
      cases h
      have hrt : (mtbs f).2.2.1 = some .char := by
        have hl : rtk 59 (mtbs f).2.2.1 = true := hl
        generalize (mtbs f).2.2.1 = r at hl
        unfold rtk at hl
        split at hl <;> simp_all
      exact W.zret hx hb (hr.trans hrt) (nar_char hy) (fun t ht _ => key t ht (fun v hv => by cases hv; exact vok_hd S.stv)) S.2.2.1.2.2 hd
    · have h9 := pI_inv hac
      clear hac
      obtain ⟨y, t, rfl, h⟩ := h9
      have h9 := pE_inv h
      clear h
      obtain ⟨rfl, h⟩ := h9
      have h9 := if_inv h
      clear h
      obtain ⟨hy, h⟩ := h9
      cases h
      have hrt : (mtbs f).2.2.1 = some .byte := by
        have hl : rtk 60 (mtbs f).2.2.1 = true := hl
        generalize (mtbs f).2.2.1 = r at hl
        unfold rtk at hl
        split at hl <;> simp_all
      exact W.zret hx hb (hr.trans hrt) (nar_byte hy) (fun t ht _ => key t ht (fun v hv => by cases hv; exact vok_hd S.stv)) S.2.2.1.2.2 hd
end MAIN
