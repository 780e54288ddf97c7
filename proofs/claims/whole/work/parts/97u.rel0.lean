/-! A NEW OBJECT on both sides: the joint world begins -/
section BEG
variable {c : Cm}
set_option maxRecDepth 100000 in
theorem z79 (j : Int) : c0s c 79 j = if j = 10 then 100 else if j = 8 then 3 else if j = 7 then 20 else if j = 2 then -1 else 0 := rfl
set_option maxRecDepth 100000 in
theorem z79o {j : Int} (h : 12 ≤ j) : c0s c 79 j = 0 := by rw [z79, if_neg (by omega), if_neg (by omega), if_neg (by omega), if_neg (by omega)]
set_option maxRecDepth 100000 in
theorem sc_beg : SC c (c0s c) := ⟨rfl, rfl⟩
set_option maxRecDepth 100000 in
theorem rng_beg : RNG (c0s c 79) := by
  have a0 : c0s c 79 0 = 0 := rfl
  have a1 : c0s c 79 1 = 0 := rfl
  have a2 : c0s c 79 2 = -1 := rfl
  have a3 : c0s c 79 3 = 0 := rfl
  have a4 : c0s c 79 4 = 0 := rfl
  have a5 : c0s c 79 5 = 0 := rfl
  have a6 : c0s c 79 6 = 0 := rfl
  have a7 : c0s c 79 7 = 20 := rfl
  have a8 : c0s c 79 8 = 3 := rfl
  have a9 : c0s c 79 9 = 0 := rfl
  have a10 : c0s c 79 10 = 100 := rfl
  have a11 : c0s c 79 11 = 0 := rfl
  refine ⟨by omega, fun i a b => ?_, fun l a b => by omega, fun p a b => by omega, fun p k a b => by omega, fun s a b => by omega, fun i a b => ?_, fun q a b => by omega⟩
  · rw [z79o (by omega)]; omega
  · rw [z79o (by omega)]; omega
set_option maxRecDepth 100000 in
theorem cs_beg : CSo 1 (c0s c) (c0s c 79) := by
  refine ⟨⟨rfl, rfl, rfl, rfl, rfl, rfl, rfl, rfl, rfl, rfl, rfl, rfl⟩, fun i a b => ?_, fun i a b => ?_, fun i a b => ?_, fun i a b => ?_, fun i a b => ?_, fun i a b => ?_⟩
  · rw [z79o (by omega)]; rfl
  · rw [z79o (by omega)]; rfl
  · rw [z79o (by omega)]; rfl
  · rw [z79o (by omega)]; rfl
  · rw [z79o (by omega)]; rfl
  · rw [z79o (by omega)]; rfl
set_option maxRecDepth 100000 in
theorem kw_beg : KW (c0s c) := by
  refine ⟨fun k a b => ?_, fun k a b => ?_, fun k a b => ?_⟩
  · have : k = 0 ∨ k = 1 ∨ k = 2 ∨ k = 3 ∨ k = 4 ∨ k = 5 ∨ k = 6 ∨ k = 7 ∨ k = 8 ∨ k = 9 := by omega
    rcases this with z | z | z | z | z | z | z | z | z | z <;> subst z <;> rfl
  · have : k = 0 ∨ k = 1 ∨ k = 2 ∨ k = 3 ∨ k = 4 ∨ k = 5 ∨ k = 6 := by omega
    rcases this with z | z | z | z | z | z | z <;> subst z <;> rfl
  · have : k = 0 ∨ k = 1 ∨ k = 2 ∨ k = 3 ∨ k = 4 := by omega
    rcases this with z | z | z | z | z <;> subst z <;> rfl
set_option maxRecDepth 100000 in
theorem rel_beg : REL [] (c0s c) 0 := by
  have a1 : c0s c 79 1 = 0 := rfl
  have b0 : c0s c 82 0 = 0 := rfl
  have b1 : c0s c 82 1 = 0 := rfl
  have b9 : c0s c 77 59 = 0 := rfl
  have z76 : ∀ j, c0s c 76 j = 0 := fun _ => rfl
  have z78 : ∀ j, c0s c 78 j = 0 := fun _ => rfl
  have z10 : ∀ j, c0s c 10 j = 0 := fun _ => rfl
  have z71 : ∀ j, c0s c 71 j = 0 := fun _ => rfl
  refine ⟨⟨cs_beg, rng_beg, fun i a b => by omega, fun x _ _ => ?_⟩, ⟨⟨rfl, .inl rfl, .inl rfl⟩, ⟨rfl, rfl⟩, fun z => by omega, fun z => by omega⟩, ⟨rfl, ⟨⟨?_, ?_⟩, fun j _ _ => ?_⟩, fun _ _ _ => rfl⟩, ⟨⟨rfl, rfl, rfl⟩, ⟨rfl, ?_, ?_⟩, kw_beg, fun i _ _ => ?_, fun j a => z79o (by omega)⟩, ⟨rfl, ⟨rfl, rfl, rfl, rfl, rfl⟩, ?_, ?_, ?_, ?_, ?_⟩, ⟨rfl, .inl rfl, fun z => by omega⟩, ⟨Nat.le_refl _, fun s hs => absurd hs (by simp)⟩⟩
  · exact trf_0
  · show (0 : Int) ≤ 0; omega
  · show (0 : Int) ≤ 400; omega
  · rw [z10]; omega
  · show (0 : Int) ≤ 0 ∧ (0 : Int) ≤ 200; omega
  · show (0 : Int) ≤ 0 ∧ (0 : Int) ≤ 10000; omega
  · rw [z71]; omega
  · rw [z76]; omega
  · rw [z76]; omega
  · rw [z76]; omega
  · rw [z76]; omega
  · rw [z76]; omega
end BEG
