/-! THE CLASS READS: clauses -/
def ZO (NW : Int) (w : Int → Int) (a : Int) (S : Int → Int) (n : Int) (z : Orc) : Prop := w a = z.1 ∧ w (a + 1) = z.2.1 ∧ (match z.2.2.1 with | none => w (a + 2) = -1 | some d => XP NW S n (w (a + 2)) d ∧ TDn d) ∧ ∀ j : Nat, j < 3 → (match z.2.2.2[j]? with | none => w (a + 3 + (j : Int)) = -1 | some d => XP NW S n (w (a + 3 + (j : Int))) d)
section ZOS
variable {NW a n n' : Int} {w w' S S' : Int → Int} {z : Orc}
theorem ZO.mv (h : ZO NW w a S n z) (hw : ∀ j, a ≤ j → j < a + 6 → w' j = w j) (hs : ∀ j, 0 ≤ j → j < n → S' j = S j) (hn : n ≤ n') : ZO NW w' a S' n' z := by
  obtain ⟨h1, h2, h3, h4⟩ := h
  refine ⟨(hw a (by omega) (by omega)).trans h1, (hw _ (by omega) (by omega)).trans h2, ?_, fun j hj => ?_⟩
  · rw [hw (a + 2) (by omega) (by omega)]
    cases e : z.2.2.1 with
    | none => rw [e] at h3; exact h3
    | some d => rw [e] at h3; exact ⟨h3.1.mv hs hn, h3.2⟩
  · have h5 := h4 j hj
    rw [hw (a + 3 + (j : Int)) (by omega) (by omega)]
    cases e : z.2.2.2[j]? with
    | none => rw [e] at h5; exact h5
    | some d => rw [e] at h5; exact h5.mv hs hn
theorem ZO.sum {d : Den} {j : Nat} {q : Int} (h : ZO NW w a S n z) (hj : z.2.2.2.length = j) (hj3 : j < 3) (hw : ∀ i, a ≤ i → i < a + 6 → w' i = if i = a + 3 + (j : Int) then q else w i) (hs : ∀ i, 0 ≤ i → i < n → S' i = S i) (hn : n ≤ n') (hx : XP NW S' n' q d) : ZO NW w' a S' n' (z.1, z.2.1, z.2.2.1, z.2.2.2 ++ [d]) := by
  obtain ⟨h1, h2, h3, h4⟩ := h
  refine ⟨?_, ?_, ?_, fun i hi => ?_⟩
  · rw [hw a (by omega) (by omega), if_neg (by omega)]; exact h1
  · rw [hw _ (by omega) (by omega), if_neg (by omega)]; exact h2
  · show match z.2.2.1 with | none => w' (a + 2) = -1 | some d => XP NW S' n' (w' (a + 2)) d ∧ TDn d
    rw [hw (a + 2) (by omega) (by omega), if_neg (by omega)]
    cases e : z.2.2.1 with
    | none => rw [e] at h3; exact h3
    | some d => rw [e] at h3; exact ⟨h3.1.mv hs hn, h3.2⟩
  · have h5 := h4 i hi
    show match (z.2.2.2 ++ [d])[i]? with | none => w' (a + 3 + (i : Int)) = -1 | some d => XP NW S' n' (w' (a + 3 + (i : Int))) d
    rw [hw (a + 3 + (i : Int)) (by omega) (by omega)]
    by_cases e : i < j
    · rw [if_neg (by omega), List.getElem?_append_left (by omega)]
      cases e : z.2.2.2[i]? with
      | none => rw [e] at h5; exact h5
      | some d => rw [e] at h5; exact h5.mv hs hn
    · rw [List.getElem?_append_right (by omega), hj]
      by_cases e2 : i = j
      · rw [if_pos (by omega), show i - j = 0 from by omega]
        exact hx
      · rw [if_neg (by omega)]
        have e3 : z.2.2.2[i]? = none := List.getElem?_eq_none (by omega)
        have e4 : [d][i - j]? = none := List.getElem?_eq_none (by show 1 ≤ i - j; omega)
        rw [e3] at h5
        rw [e4]
        exact h5
theorem ZO.test {d : Den} {q : Int} (h : ZO NW w a S n z) (hw : ∀ i, a ≤ i → i < a + 6 → w' i = if i = a + 2 then q else w i) (hs : ∀ i, 0 ≤ i → i < n → S' i = S i) (hn : n ≤ n') (hx : XP NW S' n' q d) (ht : TDn d) : ZO NW w' a S' n' (z.1, z.2.1, some d, z.2.2.2) := by
  obtain ⟨h1, h2, h3, h4⟩ := h
  refine ⟨?_, ?_, ?_, fun i hi => ?_⟩
  · rw [hw a (by omega) (by omega), if_neg (by omega)]; exact h1
  · rw [hw _ (by omega) (by omega), if_neg (by omega)]; exact h2
  · show XP NW S' n' (w' (a + 2)) d ∧ TDn d
    rw [hw (a + 2) (by omega) (by omega), if_pos rfl]
    exact ⟨hx, ht⟩
  · have h5 := h4 i hi
    show match z.2.2.2[i]? with | none => w' (a + 3 + (i : Int)) = -1 | some d => XP NW S' n' (w' (a + 3 + (i : Int))) d
    rw [hw (a + 3 + (i : Int)) (by omega) (by omega), if_neg (by omega)]
    cases e : z.2.2.2[i]? with
    | none => rw [e] at h5; exact h5
    | some d => rw [e] at h5; exact h5.mv hs hn
/-- kind and times -/
theorem ZO.set {x y : Int} (h : ZO NW w a S n z) (h0 : w' a = x) (h1' : w' (a + 1) = y) (hw : ∀ i, a + 2 ≤ i → i < a + 6 → w' i = w i) : ZO NW w' a S n (x, y, z.2.2) := by
  obtain ⟨h1, h2, h3, h4⟩ := h
  refine ⟨h0, h1', ?_, fun i hi => ?_⟩
  · show match z.2.2.1 with | none => w' (a + 2) = -1 | some d => XP NW S n (w' (a + 2)) d ∧ TDn d
    rw [hw (a + 2) (by omega) (by omega)]
    exact h3
  · show match z.2.2.2[i]? with | none => w' (a + 3 + (i : Int)) = -1 | some d => XP NW S n (w' (a + 3 + (i : Int))) d
    rw [hw (a + 3 + (i : Int)) (by omega) (by omega)]
    exact h4 i hi
end ZOS
/-- as it stands behind k clauses, m stops into the next -/
def TI (c : Cm) (o : Int) (B : Int → Int) (L m k p n : Int) (F : List Orc) : Prop := EC c B L p ∧ c 48 3 = o ∧ c 48 8 = n ∧ (0 ≤ n ∧ n ≤ 50) ∧ (0 ≤ c 11 3 ∧ c 11 3 ≤ p + 4 * k + m) ∧ (F.length : Int) = k ∧ k ≤ 12 ∧ (∀ (i : Nat) (z : Orc), F[i]? = some z → ZO (NWx o) (c 12) (6 * (i : Int)) (c 13) (c 11 3) z) ∧ WI c
/-- the row under way -/
def PZ (c : Cm) (o k : Int) (z : Orc) : Prop := ZO (NWx o) (c 12) (6 * k) (c 13) (c 11 3) z
theorem TI.crh {c : Cm} {o : Int} {B : Int → Int} {L m k p n : Int} {F : List Orc} (h : TI c o B L m k p n F) (hk : k < 12) (hm : m ≤ 4) : CRH c B L o 0 p n (c 11 3) := by
  obtain ⟨h1, h2, h3, h4, h5, h6, h7, h8, h9⟩ := h
  exact ⟨h1, h2, h3, h4, rfl, by omega, by omega⟩
theorem TI.next {c c' : Cm} {o : Int} {B : Int → Int} {L m k p p' n : Int} {F : List Orc} (h : TI c o B L m k p n F) (f : Fr NXA c c') (e : EC c' B L p') (hp : p ≤ p') : TI c' o B L m k p' n F ∧ ∀ z, PZ c o k z → PZ c' o k z := by
  obtain ⟨h1, h2, h3, h4, h5, h6, h7, h8, h9⟩ := h
  have kk := NXA.keep f
  have k12 : c' 12 = c 12 := f.cell (q := 12) (by intro j; unfold NXA; omega)
  have k3 := congrFun kk.2.2.1 3
  refine ⟨⟨e, kk.1.trans h2, kk.2.1.trans h3, h4, by rw [k3]; omega, h6, h7, ?_, h9.cong k3 (congrFun kk.2.2.1 4) kk.2.2.2⟩, fun z hz => ?_⟩
  · rw [k12, kk.2.2.2, k3]; exact h8
  · unfold PZ
    rw [k12, kk.2.2.2, k3]; exact hz
/-- a number of the row under way is set -/
theorem TI.row {c : Cm} {o : Int} {B : Int → Int} {L m k p n i v : Int} {F : List Orc} (h : TI c o B L m k p n F) (hi : 6 * k ≤ i) : TI (up c 12 i v) o B L m k p n F := by
  obtain ⟨h1, h2, h3, h4, h5, h6, h7, h8, h9⟩ := h
  refine ⟨h1.row, by rw [up_cell (by decide)]; exact h2, by rw [up_cell (by decide)]; exact h3, h4, by rw [up_cell (by decide)]; exact h5, h6, h7, fun j z hz => ?_, h9.row⟩
  have : j < F.length := by
    by_cases e : j < F.length
    · exact e
    · rw [List.getElem?_eq_none (by omega)] at hz; exact absurd hz (by simp)
  rw [up_cell (q := 13) (by decide), up_cell (q := 11) (by decide)]
  exact (h8 j z hz).mv (fun x a b => up_ne (by omega)) (fun _ _ _ => rfl) (Int.le_refl _)
theorem TI.smo {c c' : Cm} {o : Int} {B : Int → Int} {L m k p n i p1 n1 r : Int} {d : Den} {F : List Orc} (h : TI c o B L m k p n F) (hi : 6 * k ≤ i) (f : Fr TXF c c') (e12 : c' 12 = up c 12 i (c 11 3) 12) (s : SMO c B L (NWx o) p n (c 11 3) (.inr (p1, n1, d)) r c') : TI c' o B L (m + 1) k p1 n1 F := by
  obtain ⟨h1, h2, h3, h4, h5, h6, h7, h8, h9⟩ := h
  obtain ⟨s1, s2, s3, s4, s5, s6, s7, s8, s9⟩ := s
  refine ⟨s2, (f 48 3 (by unfold TXF RDA; omega)).trans h2, s4, by omega, by omega, h6, h7, fun j z hz => ?_, s9 h9⟩
  have : j < F.length := by
    by_cases e : j < F.length
    · exact e
    · rw [List.getElem?_eq_none (by omega)] at hz; exact absurd hz (by simp)
  refine (h8 j z hz).mv (fun x a b => ?_) (fun x a b => s8 x b) (by omega)
  rw [e12, up_ne (by omega)]
/-- a sum of the row under way -/
theorem c_sumStep {T : List Shp} {X : GX} {o : Int} {B : Int → Int} {L m k p n : Int} {F : List Orc} {z : Orc} {j : Nat} {c : Cm} (hX : GRr o B L X) (h : TI c o B L m k p n F) (hz : PZ c o k z) (hk : k < 12) (hm : m ≤ 3) (hj : z.2.2.2.length = j) (hj3 : j < 3) : QI T (fun r c' => Fr TXF c c' ∧ ((r = 0 ∧ ∃ f, c' 48 5 = f ∧ 0 ≤ f ∧ X 4 0 p n dz (.inl f)) ∨ (r = 1 ∧ ∃ p1 n1 d, X 4 0 p n dz (.inr (p1, n1, d)) ∧ TI c' o B L (m + 1) k p1 n1 F ∧ PZ c' o k (z.1, z.2.1, z.2.2.1, z.2.2.2 ++ [d])))) (ccal 49 [vR 49, vI (6 * k), vI (j : Int)] (SH T, c)) := by
  have hF := h.2.2.2.2.2.1
  refine (c_readSumOf hX (h.crh hk (by omega)) (by omega) (by omega)).mono fun r c' hc => ?_
  obtain ⟨f, e12, out, x, s⟩ := hc
  refine ⟨f, ?_⟩
  rcases out with g | ⟨p1, n1, d⟩
  · exact .inl ⟨s.1, g, s.2.1, s.2.2, x⟩
  · refine .inr ⟨s.1, p1, n1, d, x, h.smo (by omega) f e12 s, ?_⟩
    obtain ⟨s1, s2, s3, s4, s5, s6, s7, s8, s9⟩ := s
    refine ZO.sum hz hj hj3 (fun i a b => ?_) (fun i a b => s8 i b) (by omega) s7
    rw [e12, up_at]
/-- the test of the row under way -/
theorem c_ifPart {T : List Shp} {X : GX} {Y : GY} {o : Int} {B : Int → Int} {L m k p n : Int} {F : List Orc} {z : Orc} {c : Cm} (hX : GRr o B L X) (hY : GYr o B L X Y) (h : TI c o B L m k p n F) (hz : PZ c o k z) (hk : k < 12) (hm : m ≤ 3) : QI T (fun r c' => Fr TXF c c' ∧ ((r = 0 ∧ ∃ f, c' 48 5 = f ∧ 0 ≤ f ∧ Y 3 k p n F z (.inl f)) ∨ (r = 1 ∧ ∃ p1 n1 z', TI c' o B L 4 k p1 n1 F ∧ PZ c' o k z' ∧ ∀ out, Y 4 k p1 n1 (F ++ [z']) zo out → Y 3 k p n F z out))) (ccal 48 [vR 49, vI (6 * k)] (SH T, c)) := by
  have hF := h.2.2.2.2.2.1
  refine (c_readIf hX (h.crh hk (by omega)) (by omega)).mono fun r c' hc => ?_
  by_cases e : isw B L p 294
  · obtain ⟨f, e12, out, x, s, td⟩ := hc.2 e
    refine ⟨f, ?_⟩
    rcases out with g | ⟨p1, n1, d⟩
    · exact .inl ⟨s.1, g, s.2.1, s.2.2, hY.if2 e x⟩
    · have t := h.smo (by omega) f e12 s
      refine .inr ⟨s.1, p1, n1, (z.1, z.2.1, some d, z.2.2.2), ?_, ?_, fun out hout => hY.if3 e x hout⟩
      · obtain ⟨t1, t2, t3, t4, t5, t6⟩ := t
        exact ⟨t1, t2, t3, t4, by omega, t6⟩
      · obtain ⟨s1, s2, s3, s4, s5, s6, s7, s8, s9⟩ := s
        refine ZO.test hz (fun i a b => ?_) (fun i a b => s8 i b) (by omega) s7 td
        rw [e12, up_at]
  · obtain ⟨r1, rfl⟩ := hc.1 e
    refine ⟨Fr.rfl, .inr ⟨r1, p, n, z, ?_, hz, fun out hout => hY.if1 e hout⟩⟩
    obtain ⟨t1, t2, t3, t4, t5, t6⟩ := h
    exact ⟨t1, t2, t3, t4, by omega, t6⟩
/-- what comes of a clause's beginning: from mode a to mode b -/
def CLO (Y : GY) (c' : Cm) (o : Int) (B : Int → Int) (L k p n : Int) (F : List Orc) (a : Nat) (z0 : Orc) (b : Nat) (r : Int) : Prop := (r = 0 ∧ ∃ f, c' 48 5 = f ∧ 0 ≤ f ∧ Y a k p n F z0 (.inl f)) ∨ (r = 1 ∧ ∃ m p1 n1 z, m ≤ 3 ∧ TI c' o B L m k p1 n1 F ∧ PZ c' o k z ∧ ∀ out, Y b k p1 n1 F z out → Y a k p n F z0 out)
theorem c_readClause {T : List Shp} {X : GX} {Y : GY} {o : Int} {B : Int → Int} {L k p n : Int} {F : List Orc} {c : Cm} (hX : GRr o B L X) (hY : GYr o B L X Y) (ho : o = 0) (h : TI c o B L 0 k p n F) (hz : PZ c o k (-1, 1, none, [])) (hk : k < 12) : QI T (fun r c' => Fr TXF c c' ∧ CLO Y c' o B L k p n F 0 zo 3 r) (ccal 45 [vR 49, vI (6 * k)] (SH T, c)) := by
  have h1 := h.1
  have hF := h.2.2.2.2.2.1
  have t5 := h1.2.2.2.2.2.1
  have pL := h1.pL
  refine W_X6_readClause (Q := QI T _) (QI.of_eq (c_placeIn0 h1) ⟨fun e => QI.ret ⟨Fr.rfl, .inl ⟨rfl, p, t5, pL.1, hY.la1 ho hk e⟩⟩, fun e => ⟨by omega, ?_⟩⟩)
  have tl := tkw_lt e
  have plt : p < L := kd_lt (by rw [tl.1]; decide)
  rw [Int.add_zero]
  have hr : TI (up c 12 (6 * k) (tkw B L p WS0)) o B L 0 k p n F := h.row (by omega)
  have hz1 : PZ (up c 12 (6 * k) (tkw B L p WS0)) o k (tkw B L p WS0, 1, none, []) := by
    unfold PZ
    rw [up_cell (q := 13) (by decide), up_cell (q := 11) (by decide)]
    exact ZO.set (z := (-1, 1, none, [])) hz up_same (by rw [up_ne (by omega)]; exact hz.2.1) fun i a b => up_ne (by omega)
  have nb := nx_bd (B := B) pL.2.1
  refine (h1.row (i := 6 * k) (v := tkw B L p WS0)).next.mono fun c3 h3 => ?_
  have t3 := hr.next h3.1 h3.2 nb.1
  have f3 : Fr TXF c c3 := (Fr.rfl.wr (A := TXF) (q := 12) (.inr (.inl rfl))).trans (h3.1.mono fun q j a => a.rda.txf)
  refine ⟨fun e4 => QI.ret ⟨f3, .inr ⟨rfl, 0, _, n, _, by omega, t3.1, t3.2 _ hz1, fun out hout => ?_⟩⟩, fun e4 => ?_⟩
  · rw [e4] at hout
    exact hY.la2 ho hk e4 hout
  · refine (c_sumStep hX t3.1 (t3.2 _ hz1) hk (by omega) (j := 0) rfl (by omega)).mono fun r c5 h5 => ?_
    obtain ⟨f5, g5⟩ := h5
    rcases g5 with ⟨r0, f, e5, f0, x⟩ | ⟨r1, p1, n1, d, x, t, z⟩
    · exact ⟨fun _ => QI.ret ⟨f3.trans f5, .inl ⟨rfl, f, e5, f0, hY.la3 ho hk rfl e e4 x⟩⟩, fun z => absurd r0 z⟩
    · exact ⟨fun z => by omega, fun _ => QI.ret ⟨f3.trans f5, .inr ⟨rfl, _, p1, n1, _, by omega, t, z, fun out hout => hY.la4 ho hk rfl e e4 x hout⟩⟩⟩
