/-! ORDERS as they come out of a text: kinds 0 to 5, 1 to 20 times, as many sums as the kind asks -/
def wfo (z : Orc) : Prop := (0 ≤ z.1 ∧ z.1 ≤ 5) ∧ (1 ≤ z.2.1 ∧ z.2.1 ≤ 20) ∧ z.2.2.2.length = (if z.1 = 2 then 1 else if z.1 = 5 then 3 else 0)
def YW (o : Int) : GY := fun m _ _ _ F z out => ¬ o = 0 → (∀ y ∈ F, wfo y) → (m = 2 ∨ m = 3 → wfo z) → ∀ F', out = .inr F' → ∀ y ∈ F', wfo y
theorem wfo_mk {h : Int} {l : List Den} (h1 : 0 ≤ h ∧ h ≤ 5) (h2 : l.length = (if h = 2 then 1 else if h = 5 then 3 else 0)) : wfo (h, 1, none, l) := ⟨h1, ⟨by show (1 : Int) ≤ 1; omega, by show (1 : Int) ≤ 20; omega⟩, h2⟩
theorem wfo_add {F : List Orc} {z : Orc} (h : ∀ y ∈ F, wfo y) (hz : wfo z) : ∀ y ∈ F ++ [z], wfo y := by
  intro y hy
  rcases List.mem_append.mp hy with k | k
  · exact h y k
  · rw [List.mem_singleton.mp k]; exact hz
theorem YW.fault {o : Int} {m : Nat} {k p n : Int} {F : List Orc} {z : Orc} {f : Int} : YW o m k p n F z (.inl f) := fun _ _ _ F' e => by cases e
theorem wf_yr {o : Int} {B : Int → Int} {L : Int} {X : GX} : GYr o B L X (YW o) := by
  have fl : ∀ {m : Nat} {k p n : Int} {F : List Orc} {z : Orc} {f : Int}, YW o m k p n F z (.inl f) := fun {_ _ _ _ _ _ _} => YW.fault
  refine ⟨fun k p n F h0 => fl, fun k p n F h0 h1 h2 => fl, fun k p n F out h0 h1 h2 h3 ho => absurd h0 ho, fun k p n F h f h0 h1 h2 h3 h4 h5 => fl, fun k p n F h p1 n1 d out h0 h1 h2 h3 h4 h5 h6 ho => absurd h0 ho, fun k p n F h0 h1 h2 => fl, fun k p n F h0 h1 h2 h3 => fl, fun k p n F h out h0 h1 h2 h3 h4 h5 h6 => ?_, ?_⟩
  · intro ho hF _
    have t := tkw_lt (ws := WS2) (by rw [h3]; exact h4)
    have t2 : h < 3 := by have := t.2.2; rw [h3] at this; exact this
    have t1 : 0 ≤ h := by have := t.2.1; rw [h3] at this; exact this
    exact h6 ho hF fun _ => wfo_mk (by omega) (by rw [if_neg h5, if_neg (by omega)]; rfl)
  refine ⟨fun k p n F f h0 h1 h2 h3 h4 => fl, fun k p n F p1 n1 d out h0 h1 h2 h3 h4 h5 ho hF _ => h5 ho hF fun _ => wfo_mk (by omega) (by rw [if_pos rfl]; rfl), fun k p n F h out h0 h1 h2 h3 h4 ho hF _ => h4 ho hF fun _ => wfo_mk (by omega) (by rw [if_neg (by omega), if_neg (by omega)]; rfl), fun k p n F f h0 h1 h2 h3 => fl, fun k p n F p1 n1 d1 h0 h1 h2 h3 h4 => fl, fun k p n F p1 n1 f d1 h0 h1 h2 h3 h4 h5 => fl, fun k p n F p1 n1 p2 n2 d1 d2 h0 h1 h2 h3 h4 h5 h6 => fl, fun k p n F p1 n1 p2 n2 f d1 d2 h0 h1 h2 h3 h4 h5 h6 h7 => fl, ?_⟩
  refine ⟨fun k p n F p1 n1 p2 n2 p3 n3 d1 d2 d3 out h0 h1 h2 h3 h4 h5 h6 h7 h8 ho hF _ => h8 ho hF fun _ => wfo_mk (by omega) (by rw [if_neg (by omega), if_pos rfl]; rfl), fun k p n F z out h0 h1 ho hF hz => h1 ho hF fun _ => hz (.inl rfl), fun k p n F z h0 h1 => fl, fun k p n F z out h0 h1 h2 ho hF hz => h2 ho hF fun _ => ?_, fun k p n F z out h0 h1 ho hF hz => h1 ho (wfo_add hF (hz (.inr rfl))) fun e => by omega, fun k p n F z f h0 h1 => fl, fun k p n F z p1 n1 t out h0 h1 h2 ho hF hz => h2 ho (wfo_add hF ?_) fun e => by omega, fun k p n F h0 ho hF _ F' e => ?_, ?_⟩
  · have w := hz (.inl rfl)
    exact ⟨w.1, h1.2, w.2.2⟩
  · have w := hz (.inr rfl)
    exact ⟨w.1, w.2.1, w.2.2⟩
  · rw [← Sum.inr.inj e]; exact hF
  exact ⟨fun k p n F out h0 h1 ho hF _ => h1 ho hF fun e => by omega, fun k p n F h0 h1 => fl⟩
/-- two rules at once -/
theorem GRr.two {o : Int} {B : Int → Int} {L : Int} {X1 X2 : GX} (h1 : GRr o B L X1) (h2 : GRr o B L X2) : GRr o B L (fun m b p n d out => ∀ i : Bool, (if i = true then X1 else X2) m b p n d out) := GRr.all fun i => by cases i <;> assumption
theorem GYr.two {o : Int} {B : Int → Int} {L : Int} {X1 X2 : GX} {Y1 Y2 : GY} (h1 : GYr o B L X1 Y1) (h2 : GYr o B L X2 Y2) : GYr o B L (fun m b p n d out => ∀ i : Bool, (if i = true then X1 else X2) m b p n d out) (fun m k p n F z out => ∀ i : Bool, (if i = true then Y1 else Y2) m k p n F z out) := GYr.all fun i => by cases i <;> assumption
/-- the class reads orders: what comes of it keeps any rules, and the orders are as they should be -/
theorem c_faultOrd {T : List Shp} {X : GX} {Y : GY} {B : Int → Int} {L : Int} {c : Cm} (hX : GRr 1 B L X) (hY : GYr 1 B L X Y) (hB : c 10 = B) (hbl : BLt B L) : QI T (fun r c' => Fr TXG c c' ∧ ((0 ≤ r ∧ Y 0 0 (sk B L 0) 0 [] zo (.inl r)) ∨ (r = -1 ∧ ∃ F, TXT c' 1 F ∧ (∀ z ∈ F, wfo z) ∧ Y 0 0 (sk B L 0) 0 [] zo (.inr F)))) (ccal 43 [vR 49, vI L, vI 1] (SH T, c)) := by
  refine (c_faultIn (GRr.two hX hX) (GYr.two hY (wf_yr (X := X))) (.inr rfl) hB hbl).mono fun r c' h => ?_
  refine ⟨h.1, ?_⟩
  rcases h.2 with ⟨h1, h2⟩ | ⟨h1, F, h2, h3⟩
  · exact .inl ⟨h1, h2 true⟩
  · refine .inr ⟨h1, F, h2, ?_, h3 true⟩
    exact (h3 false) (by omega) (fun y hy => absurd hy (by simp)) (fun e => by omega) F rfl
