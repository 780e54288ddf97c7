/-! TREES: both lists hold the same trees -/
theorem flat_perm {f g : Nat → List Nat} : ∀ l : List Nat, (∀ c ∈ l, (f c).Perm (g c)) → (l.flatMap f).Perm (l.flatMap g) := by
  intro l
  induction l with
  | nil => intro _; exact List.Perm.refl _
  | cons a l ih =>
    intro h
    exact (h a (List.mem_cons_self)).append (ih fun c hc => h c (List.mem_cons_of_mem _ hc))
theorem kvN_lt (v : Nat) : kvN v < 8 := by
  unfold kvN
  cases Nat.beq (dgN v 1) 0 <;> cases Nat.beq (dgN v 2) 0 <;> cases Nat.beq (dgN v 3) 0 <;> decide
theorem kcN_lt (x : Nat) : kcN x < 8 := by
  unfold kcN
  have a := Nat.mod_lt (Nat.shiftRight x 7) (show 2 > 0 by decide)
  have b := Nat.mod_lt (Nat.shiftRight x 14) (show 2 > 0 by decide)
  have c := Nat.mod_lt (Nat.shiftRight x 21) (show 2 > 0 by decide)
  show Nat.shiftRight x 7 % 2 + (2 * (Nat.shiftRight x 14 % 2) + 4 * (Nat.shiftRight x 21 % 2)) < 8
  omega
theorem dfA_nil {n f k v : Nat} : dfA n f k v [] = dfS n f k v := by rw [dfA_eq, List.append_nil]
theorem dpA_nil {N f s : Nat} : dpA N f s [] = dpS N f s := by rw [dpA_eq, List.append_nil]
theorem chw_perm {n : Nat} (h : chwN n = true) : ((dfS n n 1 0).map fun v => codN v n).Perm (dpS (n + 1) (n + 1) (Nat.sub (Nat.shiftLeft 1 (n + 1)) 1)) := by
  have := sorN_eq h
  rw [mpN_eq, dfA_nil, dpA_nil] at this
  exact this
theorem chk_perm {c : Nat} (h : chkN c = true) : (((fiN (fun v => Nat.beq (kvN v) c) (dfS 6 3 1 0)).flatMap fun u => dfS 6 3 4 u).map fun v => codN v 6).Perm (fiN (fun x => Nat.beq (kcN x) c) (dpS 7 7 127)) := by
  have := sorN_eq h
  rw [mpN_eq, fmN_eq, dfA_nil, dpA_nil] at this
  have e : (fun u => dfA 6 3 4 u []) = fun u => dfS 6 3 4 u := funext fun u => dfA_nil
  rw [e] at this
  exact this
theorem chk_six : ((dfS 6 6 1 0).map fun v => codN v 6).Perm (dpS 7 7 127) := by
  rw [show (6 : Nat) = 3 + 3 from rfl, dfS_split]
  show (((dfS 6 3 1 0).flatMap fun u => dfS 6 3 4 u).map fun v => codN v 6).Perm (dpS 7 7 127)
  have a := ((fiN_perm kvN_lt (dfS 6 3 1 0)).flatMap_right fun u => dfS 6 3 4 u).map fun v => codN v 6
  refine a.trans (List.Perm.trans ?_ (fiN_perm kcN_lt (dpS 7 7 127)).symm)
  rw [List.flatMap_assoc, List.map_flatMap]
  refine flat_perm _ fun c hc => ?_
  have hc2 := List.mem_range.mp hc
  have : c = 0 ∨ c = 1 ∨ c = 2 ∨ c = 3 ∨ c = 4 ∨ c = 5 ∨ c = 6 ∨ c = 7 := by omega
  rcases this with h | h | h | h | h | h | h | h <;> subst h
  · exact chk_perm chk0
  · exact chk_perm chk1
  · exact chk_perm chk2
  · exact chk_perm chk3
  · exact chk_perm chk4
  · exact chk_perm chk5
  · exact chk_perm chk6
  · exact chk_perm chk7
theorem tree_perm {n : Nat} (hn : n ≤ 6) : ((dfS n n 1 0).map fun v => codN v n).Perm (dpS (n + 1) (n + 1) (Nat.sub (Nat.shiftLeft 1 (n + 1)) 1)) := by
  have : n = 0 ∨ n = 1 ∨ n = 2 ∨ n = 3 ∨ n = 4 ∨ n = 5 ∨ n = 6 := by omega
  rcases this with h | h | h | h | h | h | h <;> subst h
  · exact chw_perm chw_0
  · exact chw_perm chw_1
  · exact chw_perm chw_2
  · exact chw_perm chw_3
  · exact chw_perm chw_4
  · exact chw_perm chw_5
  · exact chk_six
theorem tree_t8 {n v : Nat} (hn : n ≤ 6) (hv : v ∈ dfS n n 1 0) : allN (t8N v 8) n = true := by
  have key : cht8 n = true := by
    have : n = 0 ∨ n = 1 ∨ n = 2 ∨ n = 3 ∨ n = 4 ∨ n = 5 ∨ n = 6 := by omega
    rcases this with h | h | h | h | h | h | h <;> subst h
    · exact ct_0
    · exact ct_1
    · exact ct_2
    · exact ct_3
    · exact ct_4
    · exact ct_5
    · exact ct_6
  have := alN_all _ key v (by rw [dfA_nil]; exact hv)
  exact this
