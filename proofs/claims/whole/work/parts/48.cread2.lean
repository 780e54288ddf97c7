/-! THE CLASS READS: a part -/
theorem c_opens {T : List Shp} {c : Cm} {B : Int → Int} {L p b : Int} (h : EC c B L p) : QI T (fun r c' => (b < 8 → r = 1 ∧ Fr NXA c c' ∧ EC c' B L (nx B L p)) ∧ (¬ b < 8 → r = 0 ∧ c = c')) (ccal 56 [vR 49, vI b] (SH T, c)) := by
  refine W_X6_opens (Q := QI T _) ⟨fun e => h.next.mono fun c2 h2 => QI.ret ⟨fun _ => ⟨rfl, h2⟩, fun z => absurd e z⟩, fun e => QI.ret ⟨fun z => absurd z e, fun _ => ⟨rfl, rfl⟩⟩⟩
theorem tkw_lt {B : Int → Int} {L p : Int} {ws : List Int} (h : ¬ tkw B L p ws = -1) : kd B L p = 0 ∧ 0 ≤ tkw B L p ws ∧ tkw B L p ws < ws.length := by
  unfold tkw at h ⊢
  by_cases e : kd B L p = 0
  · rw [if_pos e] at h ⊢
    refine ⟨e, ?_⟩
    have key : ∀ (l : List Int) (v k : Int), ¬ wix l v k = -1 → k ≤ wix l v k ∧ wix l v k < k + l.length := by
      intro l
      induction l with
      | nil => intro v k z; exact absurd rfl z
      | cons w l ih =>
        intro v k z
        have el : ((w :: l).length : Int) = l.length + 1 := by rw [List.length_cons]; omega
        rw [el]
        show k ≤ (if v = w then k else wix l v (k + 1)) ∧ (if v = w then k else wix l v (k + 1)) < k + (l.length + 1)
        replace z : ¬ (if v = w then k else wix l v (k + 1)) = -1 := z
        by_cases e2 : v = w
        · rw [if_pos e2]; omega
        · rw [if_neg e2] at z ⊢
          have := ih v (k + 1) z
          omega
    have := key ws (wo B L p) 0 h
    omega
  · rw [if_neg e] at h; exact absurd rfl h
theorem nc_bd {B : Int → Int} {L p : Int} (hB : BLt B L) (hp : 0 ≤ p) : 0 ≤ nc B L p ∧ nc B L p ≤ 10000 := by
  by_cases h : p < L ∧ kof (B p) = 1
  · exact (num_two hB hp h.1 h.2).1
  · unfold nc
    rw [if_neg h]
    omega
theorem kd_ne_isg {B : Int → Int} {L p x : Int} (h : ¬ kd B L p = 2) : ¬ isg B L p x := fun z => h z.1
/-- the step of a word -/
theorem c_wordStep {T : List Shp} {X : GX} {o : Int} {B : Int → Int} {L b p n q w p2 : Int} {c s : Cm} (hq : 0 ≤ q ∧ q ≤ p + 48) (hp0 : 0 ≤ p ∧ p ≤ 400) (hb : 0 ≤ b ∧ b ≤ 8) (hn : 0 ≤ n ∧ n < 50) (h5 : c 11 3 = q) (w0 : 0 ≤ w) (w1 : w < NWx o) (fs : Fr RDA c s) (es : EC s B L p2) (hp : p < p2) (es8 : s 48 8 = n + 1) (es11 : s 11 = c 11) (es13 : s 13 = c 13) (hx : X 0 b p n dz (.inr (p2, n + 1, fun W => some (W (w + 1))))) : QI T (fun r c' => Fr RDA c c' ∧ ∃ out, X 0 b p n dz out ∧ CPO c B L (NWx o) p n q out r c') (cev 55 (7 + 10 * (9 - b).toNat) 191 [vR 49, vU, vI w] [] (SH T, s)) := by
  have w18 : w < 18 := by unfold NWx at w1; split at w1 <;> omega
  have s3 : s 11 3 = q := by rw [es11]; exact h5
  refine W_X6_readPart_191 ⟨by omega, (c_add (d := 1) (k := w) (c := s) (by omega) (by omega) (by omega)).mono fun c5 hc => ?_⟩
  have fr := add_fr hc (by omega)
  have ec := hc.1 (by omega)
  have c54 : c5 11 4 = c 11 4 := by rw [ec, up_ne (by decide), up_cell (by decide), es11]
  have c513 : c5 13 = up c 13 q (1 + 16 * w) 13 := by
    rw [ec, up_cell (by decide), s3]
    funext j
    by_cases e : j = q
    · rw [e, up_same, up_same]
    · rw [up_ne e, up_ne e, es13]
  have c53 : c5 11 3 = q + 1 := by rw [ec, up_same, s3]
  refine QI.ret ⟨(fs.trans fr.1).wr (by unfold RDA; omega), .inr (p2, n + 1, _), hx, rfl, ?_, hp, ?_, by omega, ?_, ?_, fun j a => ?_, fun wi => ?_⟩
  · refine es.cong ?_ ?_ ?_ ?_ ?_ ?_
    · rw [up_cell (by decide), fr.2.2.1]
    · rw [up_cell (by decide), fr.2.2.1]
    · rw [up_cell (by decide), fr.2.2.1]
    · rw [up_cell (by decide), fr.2.2.1]
    · rw [up_cell (by decide), fr.2.2.1]
    · rw [up_cell (by decide)]; exact fr.2.2.2
  · rw [up_cell (by decide), fr.2.2.1]; exact es8
  · rw [up_ne (by decide), c53]; omega
  · rw [up_cell (by decide), up_ne (by decide), c53, c513, show n + 1 - n = 1 from by omega]
    exact CP.word w0 w1 up_same
  · rw [up_cell (by decide), c513, up_ne (by omega)]
  · have sr := shl_rng (k := w) (n := 18) w0 (by omega) (by decide)
    have ir := ior_rng (n := 18) (by decide) wi.1.1 wi.1.2 sr.1 sr.2
    have s18 : ((2 ^ 18 : Nat) : Int) = 262144 := rfl
    rw [s18] at ir sr
    rw [c54]
    refine ⟨by rw [up_same]; exact ir, fun j v a a2 b1 b2 ej => ?_⟩
    rw [up_ne (by decide), c53] at a2
    rw [up_same, ior_bt wi.1.1 (by have := wi.1.2; omega) sr.1 (by omega) b1]
    rw [up_cell (by decide), c513] at ej
    by_cases e5 : j = q
    · rw [e5, up_same] at ej
      have : v = w := by omega
      rw [this, shl_bt w0 (by omega) w0, decide_eq_true rfl, Bool.or_true]
    · rw [up_ne e5] at ej
      rw [wi.2 j v a (by omega) b1 b2 ej, Bool.true_or]
