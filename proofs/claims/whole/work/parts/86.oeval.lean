/-! ORDERS: pieces worked out on both sides -/
theorem PCB.mono {T : List Shp} {S W : Int → Int} {n a b p q : Int} {o : Option Int} (h : PCB T S W n a p q o) (hab : a ≤ b) : PCB T S W n b p q o := fun Q c t h' hst hh h0 hneed ht htq hno hok => h Q c t h' hst hh h0 (by omega) ht htq hno hok
theorem PCB_of {T : List Shp} {S W : Int → Int} {n p q l : Int} {d : Den} (hn : n ≤ 450) (hW : WRn 18 W) (h : CP 18 S p q l d) (hp : 0 ≤ p) (hq : q ≤ n) : PCB T S (fun i => W (i + 1)) n l p q (d W) := by
  refine (h (fun p q l d => (p < q ∧ 1 ≤ l) ∧ CP 18 S p q l d ∧ (0 ≤ p → q ≤ n → PCB T S (fun i => W (i + 1)) n l p q (d W))) ⟨?_, ?_, ?_, ?_, ?_⟩).2.2 hp hq
  · intro p k h1 h2 h3
    exact ⟨by omega, CP.num h1 h2 h3, fun hp hq => PCB_num (by omega) hn (by omega) (by omega)⟩
  · intro p k h1 h2 h3
    exact ⟨by omega, CP.word h1 h2 h3, fun hp hq => PCB_word (W := fun i => W (i + 1)) (by omega) hn h3 ⟨h1, h2⟩⟩
  · intro p m q dd l1 l2 d1 d2 h1 h2 h3 h4 h5
    refine ⟨by omega, CP.bin h1.2.1 h2.2.1 h3 h4 h5, fun hp hq => ?_⟩
    refine (PCB_bin (d := dd) (by omega) (by omega) hn ⟨h3, h4⟩ (h1.2.2 hp (by omega)) (h2.2.2 (by omega) (by omega)) h1.1.2 h2.1.2 (h1.2.1.bd hW) (h2.2.1.bd hW) (by omega)).mono ?_
    split <;> omega
  · intro p q l d1 h1 h0 h2
    refine ⟨by omega, CP.not h1.2.1 h0 h2, fun hp hq => ?_⟩
    exact PCB_not (by omega) (by omega) hn (h1.2.2 hp (by omega)) h1.1.2 (h1.2.1.bd hW) (by omega)
  · intro p m q dd l1 l2 d1 d2 h1 h2 h3 h4
    refine ⟨by omega, CP.or h1.2.1 h2.2.1 h3 h4, fun hp hq => ?_⟩
    refine (PCB_or (d := dd) (by omega) (by omega) hn h3 (h1.2.2 hp (by omega)) (h2.2.2 (by omega) hq) h1.1.2 h4).mono ?_
    split <;> omega
/-- a piece asks no word but those that stand in its steps -/
theorem CP.agree {NW : Int} {S : Int → Int} {p q l : Int} {d : Den} {W W' : Int → Int} (h : CP NW S p q l d) (hw : ∀ j w, p ≤ j → j < q → 0 ≤ w → w < NW → S j = 1 + 16 * w → W (w + 1) = W' (w + 1)) : d W = d W' := by
  refine (h (fun p q l d => p < q ∧ ((∀ j w, p ≤ j → j < q → 0 ≤ w → w < NW → S j = 1 + 16 * w → W (w + 1) = W' (w + 1)) → d W = d W')) ⟨?_, ?_, ?_, ?_, ?_⟩).2 hw
  · intro p v h1 h2 h3
    exact ⟨by omega, fun _ => rfl⟩
  · intro p w h1 h2 h3
    refine ⟨by omega, fun k => ?_⟩
    show some (W (w + 1)) = some (W' (w + 1))
    rw [k p w (Int.le_refl _) (by omega) h1 h2 h3]
  · intro p m q dd l1 l2 d1 d2 h1 h2 h3 h4 h5
    refine ⟨by omega, fun k => ?_⟩
    unfold dbin
    rw [h1.2 fun j w a b => k j w a (by omega), h2.2 fun j w a b => k j w (by omega) (by omega)]
  · intro p q l d1 h1 h0 h2
    refine ⟨by omega, fun k => ?_⟩
    unfold dnot
    rw [h1.2 fun j w a b => k j w a (by omega)]
  · intro p m q dd l1 l2 d1 d2 h1 h2 h3 h4
    refine ⟨by omega, fun k => ?_⟩
    unfold dor
    rw [h1.2 fun j w a b => k j w a (by omega), h2.2 fun j w a b => k j w (by omega) b]
theorem c_pieceB {T : List Shp} {c : Cm} {W : Int → Int} {t : Int} {d : Den} (hn : c 11 3 ≤ 450) (hW : ∀ i, 0 ≤ i → i < 18 → -1000000000 ≤ c 71 i ∧ c 71 i ≤ 1000000000) (hw : ∀ j w, 0 ≤ j → j < c 11 3 → 0 ≤ w → w < 18 → c 13 j = 1 + 16 * w → c 71 w = W (w + 1)) (h : XP 18 (c 13) (c 11 3) t d) : QI T (fun r c' => (d W = none → r = 0) ∧ (∀ y, d W = some y → r = 1 ∧ c' 69 2 = y) ∧ Off [69, 70] [] c c') (ccal 20 [vR 70, vR 12, vI t, vR 72] (SH T, c)) := by
  obtain ⟨q, l, h1, h2, h3, h4, h5⟩ := h
  have lt := h1.lt
  have hr : WRn 18 (fun i => c 71 (i - 1)) := fun i a b => hW (i - 1) (by omega) (by omega)
  have e : d W = d (fun i => c 71 (i - 1)) := h1.agree fun j w a b a2 b2 ej => by
    show W (w + 1) = c 71 (w + 1 - 1)
    rw [show w + 1 - 1 = w from by omega]
    exact (hw j w (by omega) (by omega) a2 b2 ej).symm
  rw [e]
  refine c_worksb (W := fun i => c 71 (i + 1 - 1)) (by omega) h3 hn (need := l) (by omega) (PCB_of hn hr h1 h2 (by omega)) ⟨rfl, rfl, fun i a b => ?_⟩ (by omega)
  show c 71 i = c 71 (i + 1 - 1)
  rw [show i + 1 - 1 = i from by omega]
theorem PCO.mono {T : List Shp} {P A W : Int → Int} {a b p q : Int} {o : Option Int} (h : PCO T P A W a p q o) (hab : a ≤ b) : PCO T P A W b p q o := fun Q c l h' hst hR hbr h0 hneed hq hl hno hok => h Q c l h' hst hR hbr h0 (by omega) hq hl hno hok
theorem PCO_of {T : List Shp} {P A W : Int → Int} {p q l : Int} {d : Den} (hW : WRn 18 W) (h : RP 18 P A p q l d) (hp : 0 ≤ p) : PCO T P A W l p q (d W) := by
  refine (h (fun p q l d => (p < q ∧ 1 ≤ l) ∧ RP 18 P A p q l d ∧ (0 ≤ p → PCO T P A W l p q (d W))) ⟨?_, ?_, ?_, ?_, ?_⟩).2.2 hp
  · intro p k h1 h2 h3 h4
    exact ⟨by omega, RP.num h1 h2 h3 h4, fun hp => PCO_num hp h3 h4⟩
  · intro p k h1 h2 h3 h4
    exact ⟨by omega, RP.word h1 h2 h3 h4, fun hp => PCO_word hp ⟨h1, h2⟩ (h4 (by decide))⟩
  · intro p m q dd l1 l2 d1 d2 h1 h2 h3 h4 h5
    refine ⟨by omega, RP.bin h1.2.1 h2.2.1 h3 h4 h5, fun hp => ?_⟩
    refine (PCO_bin (d := dd) (by omega) ⟨h3, h4⟩ h1.1.2 h2.1.2 (h1.2.2 hp) (h2.2.2 (by omega)) (h1.2.1.bd hW) (h2.2.1.bd hW) h5).mono ?_
    split <;> omega
  · intro p q l d1 h1 h0 h2
    refine ⟨by omega, RP.not h1.2.1 h0 h2, fun hp => ?_⟩
    exact PCO_not (by omega) h1.1.2 (h1.2.2 hp) (h1.2.1.bd hW) h2
  · intro p m q dd l1 l2 d1 d2 h1 h2 h3 h4 h5
    refine ⟨by omega, RP.or h1.2.1 h2.2.1 h3 h4 h5, fun hp => ?_⟩
    have e : (if 39 - dd = 29 then (1 : Int) else 0) = if dd = 10 then 1 else 0 := by
      rcases h3 with rfl | rfl <;> rfl
    have := PCO_or (d := 39 - dd) (by omega) (by omega) h1.1.2 (h1.2.2 hp) (h2.2.2 (by omega)) h4 h5
    rw [e] at this
    refine this.mono ?_
    split <;> omega
theorem r_sumOf {T : List Shp} {c : Cm} {W : Int → Int} {a : Int} {d : Den} (ha : 0 ≤ a ∧ a < 119) (hW : WRn 18 W) (h4 : 0 ≤ c 79 4 ∧ c 79 4 ≤ 16) (hw : ∀ i, 1 ≤ i → i ≤ 6 → c 93 i = W i) (ht : ∀ x, 0 ≤ x → x < 12 → c 79 (12 + 12 * c 79 4 + x) = W (7 + x)) (h : PRL 18 (c 85) (c 86) 400 (c 107 a) (c 107 (a + 1)) d) : QL T (fun r c' => Off [94] [16, 34, 35] c c' ∧ c' 77 16 = 0 ∧ (d W = none → c' 77 34 = 1) ∧ (∀ y, d W = some y → c' 77 34 = 0 ∧ r = y)) (ccal 330 [vR 78, vI a] (SH T, c)) := by
  obtain ⟨l, h1, h2, h3, h5⟩ := h
  have lt := h1.lt
  have st : STO (up c 77 16 1) W := ⟨by rw [up_same]; decide, by rw [up_cell (by decide)]; exact h4, fun i a b => by rw [up_cell (by decide)]; exact hw i a b, fun x a b => by rw [up_cell (by decide)]; exact ht x a b⟩
  refine W_X12_sumOf (Q := QL T _) ⟨by omega, ?_⟩
  refine (r_reckonOrd (P := c 85) (A := c 86) (W := W) (o := d W) (need := l) (by omega) (by omega) (PCO_of hW h1 h2) st ⟨up_cell (by decide), up_cell (by decide)⟩).mono fun c1 g => ?_
  obtain ⟨g1, g2, g3⟩ := g
  have o1 : Off [94] [16, 34, 35] c c1 := (Off.rfl.wr rfl).trans (g3.mono rfl rfl)
  refine QL.ret ⟨o1.wr rfl, up_same, fun e => ?_, fun y e => ⟨?_, ?_⟩⟩
  · rw [up_ne (by decide)]; exact g1 e
  · rw [up_ne (by decide)]; exact (g2 y e).1
  · exact (g2 y e).2
