/-! TEXTS: the judge's engine works a piece out -/
theorem PCA.mono {T : List Shp} {x : Int} {u v : Nat} {S W : Int → Int} {n a b p q : Int} {o : Option Int} (h : PCA T x u v S W n a p q o) (hab : a ≤ b) : PCA T x u v S W n b p q o := fun Q c t h' hst hh h0 hneed ht htq hno hok => h Q c t h' hst hh h0 (by omega) ht htq hno hok
theorem PCA_of {T : List Shp} {x : Int} {u v : Nat} {S W : Int → Int} {n p q l : Int} {d : Den} (hx : TXA T x u v) (hl : ∀ n5 n2 f3 f6, drf (SH T) x = some (u, (20, n2, f3)) → drf (SH T) (f3.getD 1 0) = some (v, (0, n5, f6)) → n ≤ n5) (hn : n ≤ 450) (hW : WRn 10 W) (h : CP 10 S p q l d) (hp : 0 ≤ p) (hq : q ≤ n) : PCA T x u v S (fun i => W (i + 1)) n l p q (d W) := by
  refine (h (fun p q l d => (p < q ∧ 1 ≤ l) ∧ CP 10 S p q l d ∧ (0 ≤ p → q ≤ n → PCA T x u v S (fun i => W (i + 1)) n l p q (d W))) ⟨?_, ?_, ?_, ?_, ?_⟩).2.2 hp hq
  · intro p k h1 h2 h3
    exact ⟨by omega, CP.num h1 h2 h3, fun hp hq => PCA_num hx (by omega) hn (by omega) (by omega) hl⟩
  · intro p k h1 h2 h3
    exact ⟨by omega, CP.word h1 h2 h3, fun hp hq => PCA_word (W := fun i => W (i + 1)) hx (by omega) hn h3 ⟨h1, h2⟩ hl⟩
  · intro p m q dd l1 l2 d1 d2 h1 h2 h3 h4 h5
    refine ⟨by omega, CP.bin h1.2.1 h2.2.1 h3 h4 h5, fun hp hq => ?_⟩
    refine (PCA_bin (d := dd) hx (by omega) (by omega) hn ⟨h3, h4⟩ (h1.2.2 hp (by omega)) (h2.2.2 (by omega) (by omega)) h1.1.2 h2.1.2 (h1.2.1.bd hW) (h2.2.1.bd hW) (by omega) hl).mono ?_
    split <;> omega
  · intro p q l d1 h1 h0 h2
    refine ⟨by omega, CP.not h1.2.1 h0 h2, fun hp hq => ?_⟩
    exact PCA_not hx (by omega) (by omega) hn (h1.2.2 hp (by omega)) h1.1.2 (h1.2.1.bd hW) (by omega) hl
  · intro p m q dd l1 l2 d1 d2 h1 h2 h3 h4
    refine ⟨by omega, CP.or h1.2.1 h2.2.1 h3 h4, fun hp hq => ?_⟩
    refine (PCA_or (d := dd) hx (by omega) (by omega) hn h3 (h1.2.2 hp (by omega)) (h2.2.2 (by omega) hq) h1.1.2 h4 hl).mono ?_
    split <;> omega
/-! the reference's pieces by their numbers: op P, arg A; hw: what a word looks like there -/
def RPR (NW : Int) (P A : Int → Int) (X : Int → Int → Int → Den → Prop) : Prop :=
  (∀ p v, 0 ≤ v → v ≤ 1000 → P p = 0 → A p = v → X p (p + 1) 1 (fun _ => some v)) ∧
  (∀ p w, 0 ≤ w → w < NW → (NW = 10 → P p = w + 1) → (¬ NW = 10 → (w < 6 ∧ P p = w + 1) ∨ (6 ≤ w ∧ P p = 7 ∧ A p = w - 6)) → X p (p + 1) 1 (fun W => some (W (w + 1)))) ∧
  (∀ p m q dd l1 l2 d1 d2, X p m l1 d1 → X m q l2 d2 → 2 ≤ dd → dd ≤ 8 → P q = dd + 18 → X p (q + 1) (l1 + l2) (dbin dd d1 d2)) ∧
  (∀ p q l d1, X p q l d1 → TDn d1 → P q = 27 → X p (q + 1) l (dnot d1)) ∧
  (∀ p m q dd l1 l2 d1 d2, X p m l1 d1 → X (m + 1) q l2 d2 → (dd = 10 ∨ dd = 11) → P m = 39 - dd → A m = q → X p q (l1 + l2) (dor dd d1 d2))
def RP (NW : Int) (P A : Int → Int) (p q l : Int) (d : Den) : Prop := ∀ X : Int → Int → Int → Den → Prop, RPR NW P A X → X p q l d
section RPS
variable {NW : Int} {P A : Int → Int}
theorem RP.rules : RPR NW P A (RP NW P A) := by
  refine ⟨fun p v h1 h2 h3 h4 X hX => hX.1 p v h1 h2 h3 h4, fun p w h1 h2 h3 h4 X hX => hX.2.1 p w h1 h2 h3 h4, fun p m q dd l1 l2 d1 d2 h1 h2 h3 h4 h5 X hX => hX.2.2.1 p m q dd l1 l2 d1 d2 (h1 X hX) (h2 X hX) h3 h4 h5, fun p q l d1 h1 h0 h2 X hX => hX.2.2.2.1 p q l d1 (h1 X hX) h0 h2, fun p m q dd l1 l2 d1 d2 h1 h2 h3 h4 h5 X hX => hX.2.2.2.2 p m q dd l1 l2 d1 d2 (h1 X hX) (h2 X hX) h3 h4 h5⟩
theorem RP.num {p v : Int} (h1 : 0 ≤ v) (h2 : v ≤ 1000) (h3 : P p = 0) (h4 : A p = v) : RP NW P A p (p + 1) 1 (fun _ => some v) := RP.rules.1 p v h1 h2 h3 h4
theorem RP.word {p w : Int} (h1 : 0 ≤ w) (h2 : w < NW) (h3 : NW = 10 → P p = w + 1) (h4 : ¬ NW = 10 → (w < 6 ∧ P p = w + 1) ∨ (6 ≤ w ∧ P p = 7 ∧ A p = w - 6)) : RP NW P A p (p + 1) 1 (fun W => some (W (w + 1))) := RP.rules.2.1 p w h1 h2 h3 h4
theorem RP.bin {p m q dd l1 l2 : Int} {d1 d2 : Den} (h1 : RP NW P A p m l1 d1) (h2 : RP NW P A m q l2 d2) (h3 : 2 ≤ dd) (h4 : dd ≤ 8) (h5 : P q = dd + 18) : RP NW P A p (q + 1) (l1 + l2) (dbin dd d1 d2) := RP.rules.2.2.1 p m q dd l1 l2 d1 d2 h1 h2 h3 h4 h5
theorem RP.not {p q l : Int} {d1 : Den} (h1 : RP NW P A p q l d1) (h0 : TDn d1) (h2 : P q = 27) : RP NW P A p (q + 1) l (dnot d1) := RP.rules.2.2.2.1 p q l d1 h1 h0 h2
theorem RP.or {p m q dd l1 l2 : Int} {d1 d2 : Den} (h1 : RP NW P A p m l1 d1) (h2 : RP NW P A (m + 1) q l2 d2) (h3 : dd = 10 ∨ dd = 11) (h4 : P m = 39 - dd) (h5 : A m = q) : RP NW P A p q (l1 + l2) (dor dd d1 d2) := RP.rules.2.2.2.2 p m q dd l1 l2 d1 d2 h1 h2 h3 h4 h5
theorem RP.lt {p q l : Int} {d : Den} (h : RP NW P A p q l d) : p < q ∧ 1 ≤ l := by
  refine h (fun p q l _ => p < q ∧ 1 ≤ l) ⟨?_, ?_, ?_, ?_, ?_⟩
  · intros; omega
  · intros; omega
  · intro p m q dd l1 l2 d1 d2 h1 h2 _ _ _; omega
  · intro p q l d1 h1 _ _; omega
  · intro p m q dd l1 l2 d1 d2 h1 h2 _ _ _; omega
theorem RP.mv {P' A' : Int → Int} {p q l : Int} {d : Den} (h : RP NW P A p q l d) (hs : ∀ j, p ≤ j → j < q → P' j = P j ∧ A' j = A j) : RP NW P' A' p q l d := by
  refine (h (fun p q l d => p < q ∧ ((∀ j, p ≤ j → j < q → P' j = P j ∧ A' j = A j) → RP NW P' A' p q l d)) ⟨?_, ?_, ?_, ?_, ?_⟩).2 hs
  · intro p v h1 h2 h3 h4
    refine ⟨by omega, fun k => ?_⟩
    have kp := k p (by omega) (by omega)
    exact RP.num h1 h2 (by rw [kp.1]; exact h3) (by rw [kp.2]; exact h4)
  · intro p w h1 h2 h3 h4
    refine ⟨by omega, fun k => ?_⟩
    have kp := k p (by omega) (by omega)
    exact RP.word h1 h2 (by rw [kp.1]; exact h3) (by rw [kp.1, kp.2]; exact h4)
  · intro p m q dd l1 l2 d1 d2 h1 h2 h3 h4 h5
    exact ⟨by omega, fun k => RP.bin (h1.2 fun j a b => k j a (by omega)) (h2.2 fun j a b => k j (by omega) (by omega)) h3 h4 (by rw [(k q (by omega) (by omega)).1]; exact h5)⟩
  · intro p q l d1 h1 h0 h2
    exact ⟨by omega, fun k => RP.not (h1.2 fun j a b => k j a (by omega)) h0 (by rw [(k q (by omega) (by omega)).1]; exact h2)⟩
  · intro p m q dd l1 l2 d1 d2 h1 h2 h3 h4 h5
    refine ⟨by omega, fun k => ?_⟩
    have km := k m (by omega) (by omega)
    exact RP.or (h1.2 fun j a b => k j a (by omega)) (h2.2 fun j a b => k j (by omega) b) h3 (by rw [km.1]; exact h4) (by rw [km.2]; exact h5)
theorem RP.bd {p q l : Int} {d : Den} {W : Int → Int} (h : RP NW P A p q l d) (hW : WRn NW W) : ∀ y, d W = some y → -1000000000 ≤ y ∧ y ≤ 1000000000 := by
  refine (h (fun p q l d => ∀ y, d W = some y → -1000000000 ≤ y ∧ y ≤ 1000000000) ⟨?_, ?_, ?_, ?_, ?_⟩)
  · intro p v h1 h2 _ _
    intro y e
    have := Option.some.inj e
    omega
  · intro p w h1 h2 _ _
    intro y e
    have := Option.some.inj e
    have := hW (w + 1) (by omega) (by omega)
    omega
  · intro p m q dd l1 l2 d1 d2 _ _ _ _ _
    exact fun y e => dbin_some e
  · intro p q l d1 h1 h0 _
    intro y e
    have := h0 _ _ (dnot_some e)
    omega
  · intro p m q dd l1 l2 d1 d2 h1 h2 _ _ _
    intro y e
    rcases dor_some e with h | h
    · exact h1 y h
    · exact h2 y h
end RPS
theorem PCR.mono {T : List Shp} {R : Int → Int} {A a b p q : Int} {W : Int → Int} {o : Option Int} (h : PCR T R A W a p q o) (hab : a ≤ b) : PCR T R A W b p q o := fun Q c l h' hst hR hbr h0 hneed hq hl hno hok => h Q c l h' hst hR hbr h0 (by omega) hq hl hno hok
theorem PCR_of {T : List Shp} {R : Int → Int} {A p q l : Int} {W : Int → Int} {d : Den} (hW : WRn 10 W) (h : RP 10 (fun j => R (A + 98 + 2 * j)) (fun j => R (A + 98 + 2 * j + 1)) p q l d) (hp : 0 ≤ p) : PCR T R A W l p q (d W) := by
  refine (h (fun p q l d => (p < q ∧ 1 ≤ l) ∧ RP 10 (fun j => R (A + 98 + 2 * j)) (fun j => R (A + 98 + 2 * j + 1)) p q l d ∧ (0 ≤ p → PCR T R A W l p q (d W))) ⟨?_, ?_, ?_, ?_, ?_⟩).2.2 hp
  · intro p k h1 h2 h3 h4
    exact ⟨by omega, RP.num h1 h2 h3 h4, fun hp => PCR_num hp h3 h4⟩
  · intro p k h1 h2 h3 h4
    exact ⟨by omega, RP.word h1 h2 h3 h4, fun hp => PCR_word hp (by omega) (h3 rfl)⟩
  · intro p m q dd l1 l2 d1 d2 h1 h2 h3 h4 h5
    refine ⟨by omega, RP.bin h1.2.1 h2.2.1 h3 h4 h5, fun hp => ?_⟩
    refine (PCR_bin (d := dd) (by omega) ⟨h3, h4⟩ h1.1.2 h2.1.2 (h1.2.2 hp) (h2.2.2 (by omega)) (h1.2.1.bd hW) (h2.2.1.bd hW) h5).mono ?_
    split <;> omega
  · intro p q l d1 h1 h0 h2
    refine ⟨by omega, RP.not h1.2.1 h0 h2, fun hp => ?_⟩
    exact PCR_not (by omega) h1.1.2 (h1.2.2 hp) (h1.2.1.bd hW) h2
  · intro p m q dd l1 l2 d1 d2 h1 h2 h3 h4 h5
    refine ⟨by omega, RP.or h1.2.1 h2.2.1 h3 h4 h5, fun hp => ?_⟩
    have e : (if 39 - dd = 29 then (1 : Int) else 0) = if dd = 10 then 1 else 0 := by
      rcases h3 with rfl | rfl <;> rfl
    have := PCR_or (d := 39 - dd) (by omega) (by omega) h1.1.2 (h1.2.2 hp) (h2.2.2 (by omega)) h4 h5
    rw [e] at this
    refine this.mono ?_
    split <;> omega
