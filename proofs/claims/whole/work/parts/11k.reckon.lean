/-! PIECES: the reference reckons with two values (op d + 18) -/
theorem r_reckon {T : List Shp} {c : Cm} {d a b : Int} (hd : 2 ≤ d ∧ d ≤ 8) (ha : -1000000000 ≤ a ∧ a ≤ 1000000000) (hb : -1000000000 ≤ b ∧ b ≤ 1000000000) (h34 : c 77 34 = 0) : QL T (fun r c' => Off [] [34] c c' ∧ (d = 5 ∧ b = 0 → c' 77 34 = 1) ∧ (¬ (d = 5 ∧ b = 0) → c' 77 34 = 0 ∧ r = bnr d a b)) (ccal 246 [vR 78, vI (d + 18), vL a, vL b] (SH T, c)) := by
  have mb := mul_big ha hb
  have tb := tdiv_big (b := b) ha
  refine W_X12_reckon (Q := QL T _) ⟨fun e => ⟨by omega, QL.ret ⟨Off.rfl, fun z => by omega, fun _ => ⟨h34, ?_⟩⟩⟩, fun e => ⟨by omega, QL.ret ⟨Off.rfl, fun z => by omega, fun _ => ⟨h34, ?_⟩⟩⟩, fun e => ⟨by omega, QL.ret ⟨Off.rfl, fun z => by omega, fun _ => ⟨h34, ?_⟩⟩⟩, fun e => ⟨fun e2 => ?_, fun e2 => ?_⟩, fun e => ⟨fun e2 => QL.ret ⟨Off.rfl, fun z => by omega, fun _ => ⟨h34, ?_⟩⟩, fun e2 => QL.ret ⟨Off.rfl, fun z => by omega, fun _ => ⟨h34, ?_⟩⟩⟩, fun e => ⟨fun e2 => QL.ret ⟨Off.rfl, fun z => by omega, fun _ => ⟨h34, ?_⟩⟩, fun e2 => QL.ret ⟨Off.rfl, fun z => by omega, fun _ => ⟨h34, ?_⟩⟩⟩, fun e => ⟨fun e2 => QL.ret ⟨Off.rfl, fun z => by omega, fun _ => ⟨h34, ?_⟩⟩, fun e2 => QL.ret ⟨Off.rfl, fun z => by omega, fun _ => ⟨h34, ?_⟩⟩⟩⟩
  · unfold bnr; rw [if_pos (by omega)]
  · unfold bnr; rw [if_neg (by omega), if_pos (by omega)]
  · unfold bnr; rw [if_neg (by omega), if_neg (by omega), if_pos (by omega)]
  · exact W_X12_reckon_68 ⟨by omega, fun z => absurd z (by decide), fun _ => QL.ret ⟨Off.rfl.wr rfl, fun _ => up_same, fun z => absurd ⟨by omega, e2⟩ z⟩⟩
  · refine W_X12_reckon_68 ⟨by omega, fun _ => ⟨⟨by omega, e2⟩, QL.ret ⟨Off.rfl.wr rfl, fun z => absurd z.2 e2, fun _ => ⟨up_same, ?_⟩⟩⟩, fun z => absurd rfl z⟩
    unfold bnr; rw [if_neg (by omega), if_neg (by omega), if_neg (by omega), if_pos (by omega), if_neg e2]
  · unfold bnr; rw [if_neg (by omega), if_neg (by omega), if_neg (by omega), if_neg (by omega), if_pos (by omega), if_pos e2]
  · unfold bnr; rw [if_neg (by omega), if_neg (by omega), if_neg (by omega), if_neg (by omega), if_pos (by omega), if_neg e2]
  · unfold bnr; rw [if_neg (by omega), if_neg (by omega), if_neg (by omega), if_neg (by omega), if_neg (by omega), if_pos (by omega), if_pos e2]
  · unfold bnr; rw [if_neg (by omega), if_neg (by omega), if_neg (by omega), if_neg (by omega), if_neg (by omega), if_pos (by omega), if_neg e2]
  · unfold bnr; rw [if_neg (by omega), if_neg (by omega), if_neg (by omega), if_neg (by omega), if_neg (by omega), if_neg (by omega), if_pos e2]
  · unfold bnr; rw [if_neg (by omega), if_neg (by omega), if_neg (by omega), if_neg (by omega), if_neg (by omega), if_neg (by omega), if_neg e2]
