/-! THE MACHINE'S WORLD of an interpreter's memory (own work) -/
abbrev AdX : Type := (Nat → Nat) × (Nat → Nat) × Nat × Option Nat
def rof (ad : Nat → Nat) (X : AdX) (r : Int) : Option Nat := match r with
  | .ofNat 0 => none
  | .ofNat (k + 1) => some (ad k)
  | .negSucc n => bif Nat.beq n 0 then some X.2.2.1 else bif Nat.beq n 4 then X.2.2.2 else bif Nat.ble n 110 then some (X.1 (n - 99)) else some (X.2.1 (n - 199))
def mv (ad : Nat → Nat) (X : AdX) (v : V) : Value := match v with
  | .inl x => .int (Int32.ofInt x)
  | .inr (.inl x) => .long (Int64.ofInt x)
  | .inr (.inr (.inl r)) => va_rf (rof ad X r)
  | .inr (.inr (.inr _)) => .null
def vok (N : Nat) (v : V) : Prop := match v with
  | .inl x => In32 x
  | .inr (.inl x) => In64 x
  | .inr (.inr (.inl r)) => r ≤ (N : Int)
  | .inr (.inr (.inr _)) => True
def cok (N : Nat) (s : Shp) (f : Int → Int) : Prop :=
  (s.1 ≤ 4 → 0 ≤ s.2.1 ∧ s.2.1 ≤ 60000000) ∧ (s.1 = 0 ∨ s.1 = 2 → ∀ j, In32 (f j)) ∧ (s.1 = 1 → ∀ j, In64 (f j)) ∧ (s.1 = 3 ∨ s.1 = 4 → ∀ j, 0 ≤ f j ∧ f j ≤ (N : Int)) ∧
  (¬ s.1 ≤ 4 → 10 ≤ s.1 ∧ s.1 ≤ 22 ∧ s.2.2.length = (ftb (s.1 - 10)).length ∧ (∀ x ∈ s.2.2, x ≤ (N : Int)) ∧ ∀ j : Nat, ((ftb (s.1 - 10)).getD j 9 = 1 → In64 (f j)) ∧ ((ftb (s.1 - 10)).getD j 9 ≠ 1 → In32 (f j)))
def mok (L : List Shp) (c : Nat → Int → Int) : Prop := ∀ k s, L[k]? = some s → cok L.length s (c k)
def fvl (ad : Nat → Nat) (X : AdX) (t : Nat) (x r : Int) : Value := match t with
  | 0 => .int (Int32.ofInt x)
  | 1 => .long (Int64.ofInt x)
  | 2 => .int (Int32.ofInt x)
  | _ => va_rf (rof ad X r)
def flds (ad : Nat → Nat) (X : AdX) (ci : Nat) (f : Int → Int) (fin : List Int) : List Value := (List.range (ftb ci).length).map (fun k => fvl ad X ((ftb ci).getD k 9) (f (Int.ofNat k)) (fin.getD k 0))
def ent (ad : Nat → Nat) (X : AdX) (cA : Nat → ClassId) (s : Shp) (f : Int → Int) : va_E := match s.1 with
  | 0 => .inl (cA 0, (s.2.1.toNat, .inl (fun j => Int32.ofInt (f (Int.ofNat j)))))
  | 1 => .inl (cA 1, (s.2.1.toNat, .inr (.inl (fun j => Int64.ofInt (f (Int.ofNat j))))))
  | 2 => .inl (cA 2, (s.2.1.toNat, .inl (fun j => Int32.ofInt (f (Int.ofNat j)))))
  | 3 => .inl (cA 3, (s.2.1.toNat, .inr (.inr (.inr (.inr (fun j => rof ad X (f (Int.ofNat j))))))))
  | 4 => .inl (cA 4, (s.2.1.toNat, .inr (.inr (.inr (.inr (fun j => rof ad X (f (Int.ofNat j))))))))
  | n => .inr (n - 10, flds ad X (n - 10) f s.2.2)
def wsl (ad : Nat → Nat) (X : AdX) (cA : Nat → ClassId) (L : List Shp) (c : Nat → Int → Int) : va_W := (List.range L.length).map (fun k => (ad k, ent ad X cA (L.getD k (0, 0, [])) (c k)))
theorem rof_keep {ad ad' : Nat → Nat} {X : AdX} {N : Nat} {r : Int} (h : ∀ k, k < N → ad' k = ad k) (hr : r ≤ (N : Int)) : rof ad' X r = rof ad X r := by
  rcases r with (_ | k) | n
  · rfl
  · show some (ad' k) = some (ad k)
    rw [h k (by have : ((k + 1 : Nat) : Int) ≤ N := hr; omega)]
  · rfl
theorem mv_keep {ad ad' : Nat → Nat} {X : AdX} {N : Nat} {v : V} (h : ∀ k, k < N → ad' k = ad k) (hv : vok N v) : mv ad' X v = mv ad X v := by
  rcases v with x | x | r | u
  · rfl
  · rfl
  · show va_rf _ = va_rf _
    rw [rof_keep h hv]
  · rfl
theorem vok_mono {N N' : Nat} {v : V} (h : N ≤ N') (hv : vok N v) : vok N' v := by
  rcases v with x | x | r | u
  · exact hv
  · exact hv
  · have : r ≤ (N : Int) := hv
    show r ≤ (N' : Int)
    omega
  · trivial
theorem cok_mono {N N' : Nat} {s : Shp} {f : Int → Int} (h : N ≤ N') (hc : cok N s f) : cok N' s f := by
  obtain ⟨h1, h2, h3, h4, h5⟩ := hc
  refine ⟨h1, h2, h3, fun q j => ⟨(h4 q j).1, by have := (h4 q j).2; omega⟩, fun q => ?_⟩
  obtain ⟨g1, g2, g3, g4, g5⟩ := h5 q
  exact ⟨g1, g2, g3, fun x hx => by have := g4 x hx; omega, g5⟩
theorem kind_cases {n : Nat} : n = 0 ∨ n = 1 ∨ n = 2 ∨ n = 3 ∨ n = 4 ∨ 5 ≤ n := by omega
theorem ent_5 {ad : Nat → Nat} {X : AdX} {cA : Nat → ClassId} {s : Shp} {f : Int → Int} (h : 5 ≤ s.1) : ent ad X cA s f = .inr (s.1 - 10, flds ad X (s.1 - 10) f s.2.2) := by
  unfold ent
  split <;> first | omega | rfl
theorem ent_keep {ad ad' : Nat → Nat} {X : AdX} {cA : Nat → ClassId} {N : Nat} {s : Shp} {f : Int → Int} (h : ∀ k, k < N → ad' k = ad k) (hc : cok N s f) : ent ad' X cA s f = ent ad X cA s f := by
  obtain ⟨kd, sz, fin⟩ := s
  obtain ⟨h1, h2, h3, h4, h5⟩ := hc
  rcases (kind_cases (n := kd)) with q | q | q | q | q | q
  · subst q; rfl
  · subst q; rfl
  · subst q; rfl
  · subst q
    show (Sum.inl (cA 3, (sz.toNat, _)) : va_E) = Sum.inl (cA 3, (sz.toNat, _))
    have e : (fun j : Nat => rof ad' X (f (Int.ofNat j))) = fun j : Nat => rof ad X (f (Int.ofNat j)) := funext fun j => rof_keep h (h4 (Or.inl rfl) _).2
    rw [e]
  · subst q
    show (Sum.inl (cA 4, (sz.toNat, _)) : va_E) = Sum.inl (cA 4, (sz.toNat, _))
    have e : (fun j : Nat => rof ad' X (f (Int.ofNat j))) = fun j : Nat => rof ad X (f (Int.ofNat j)) := funext fun j => rof_keep h (h4 (Or.inr rfl) _).2
    rw [e]
  · rw [ent_5 (s := (kd, sz, fin)) q, ent_5 (s := (kd, sz, fin)) q]
    obtain ⟨g1, g2, g3, g4, g5⟩ := h5 (by show ¬ kd ≤ 4; omega)
    congr 2
    unfold flds
    refine List.map_congr_left fun k hk => ?_
    have hr : fin.getD k 0 ≤ (N : Int) := by
      by_cases hk2 : k < fin.length
      · rw [List.getD_eq_getElem?_getD, List.getElem?_eq_getElem hk2]
        exact g4 _ (List.getElem_mem hk2)
      · rw [List.getD_eq_getElem?_getD, List.getElem?_eq_none (by omega)]
        show (0 : Int) ≤ N
        omega
    unfold fvl
    split
    · rfl
    · rfl
    · rfl
    · rw [rof_keep h hr]
theorem wsl_len {ad : Nat → Nat} {X : AdX} {cA : Nat → ClassId} {L : List Shp} {c : Nat → Int → Int} : (wsl ad X cA L c).length = L.length := by simp [wsl]
theorem wsl_at {ad : Nat → Nat} {X : AdX} {cA : Nat → ClassId} {L : List Shp} {c : Nat → Int → Int} {k : Nat} {s : Shp} (h : L[k]? = some s) : (wsl ad X cA L c)[k]? = some (ad k, ent ad X cA s (c k)) := by
  have hk : k < L.length := (List.getElem?_eq_some_iff.mp h).1
  unfold wsl
  rw [List.getElem?_map, List.getElem?_range hk]
  show some (ad k, ent ad X cA (L.getD k (0, 0, [])) (c k)) = _
  rw [List.getD_eq_getElem?_getD, h]
  rfl
theorem wsl_set {ad : Nat → Nat} {X : AdX} {cA : Nat → ClassId} {L L' : List Shp} {c c' : Nat → Int → Int} {k : Nat} {s' : Shp} {e : va_E} (hl : L'.length = L.length) (hk : L'[k]? = some s') (ho : ∀ j, j ≠ k → L'[j]? = L[j]?) (hc : ∀ j, j ≠ k → c' j = c j) (he : e = ent ad X cA s' (c' k)) : (wsl ad X cA L c).set k (ad k, e) = wsl ad X cA L' c' := by
  apply List.ext_getElem?
  intro j
  have hkl : k < L.length := by rw [← hl]; exact (List.getElem?_eq_some_iff.mp hk).1
  by_cases hj : j = k
  · subst hj
    rw [List.getElem?_set_self (by rw [wsl_len]; exact hkl), wsl_at hk, he]
  · rw [List.getElem?_set_ne (fun q => hj q.symm)]
    cases hq : L[j]? with
    | none =>
      have h1 : L.length ≤ j := by simpa using hq
      rw [List.getElem?_eq_none (by rw [wsl_len]; exact h1), List.getElem?_eq_none (by rw [wsl_len, hl]; exact h1)]
    | some s => rw [wsl_at hq, wsl_at ((ho j hj).trans hq), hc j hj]
/-- where a new cell lies -/
def adp (ad : Nat → Nat) (n q : Nat) : Nat → Nat := fun k => if k = n then q else ad k
theorem adp_lt {ad : Nat → Nat} {n q k : Nat} (h : k < n) : adp ad n q k = ad k := by unfold adp; rw [if_neg (by omega)]
theorem adp_eq {ad : Nat → Nat} {n q : Nat} : adp ad n q n = q := by unfold adp; rw [if_pos rfl]
theorem wsl_push {ad : Nat → Nat} {X : AdX} {cA : Nat → ClassId} {L : List Shp} {c c' : Nat → Int → Int} {s' : Shp} {q : Nat} (hm : mok L c) (hc : ∀ j, j ≠ L.length → c' j = c j) : wsl ad X cA L c ++ [(q, ent (adp ad L.length q) X cA s' (c' L.length))] = wsl (adp ad L.length q) X cA (L ++ [s']) c' := by
  apply List.ext_getElem?
  intro j
  rcases Nat.lt_trichotomy j L.length with hj | hj | hj
  · have hq : L[j]? = some L[j] := List.getElem?_eq_getElem hj
    rw [List.getElem?_append_left (by rw [wsl_len]; exact hj), wsl_at hq, wsl_at (s := L[j]) (by rw [List.getElem?_append_left hj]; exact hq), adp_lt hj, hc j (by omega), ent_keep (fun k hk => adp_lt hk) (hm j _ hq)]
  · subst hj
    rw [wsl_at (s := s') (by simp), adp_eq, List.getElem?_append_right (by rw [wsl_len]; exact Nat.le_refl _), wsl_len, Nat.sub_self]
    rfl
  · rw [List.getElem?_eq_none (by rw [List.length_append, wsl_len]; simp; omega), List.getElem?_eq_none (by rw [wsl_len, List.length_append]; simp; omega)]
/-- the script's numbers lie in two places that no cell has -/
def SCR (n : Nat) (xs : Nat → Int32) (c : Nat → Int → Int) : Prop := c 1000001 0 = (n : Int) ∧ ∀ j : Nat, j < n → c 1000000 (j : Int) = (xs j).toInt
/-- the places of all cells together -/
def slz (L : List Shp) : Nat := (L.map (fun s => s.2.1.toNat)).sum
theorem slz_app {L : List Shp} {s : Shp} : slz (L ++ [s]) = slz L + s.2.1.toNat := by simp [slz]
theorem slz_set : ∀ {L : List Shp} {k : Nat} {s s' : Shp}, L[k]? = some s → s'.2.1 = s.2.1 → slz (L.set k s') = slz L
  | [], k, s, s', h, _ => by simp at h
  | a :: L, 0, s, s', h, e => by
    have h : a = s := by simpa using h
    subst h
    simp [slz, e]
  | a :: L, k + 1, s, s', h, e => by
    have h : L[k]? = some s := by simpa using h
    have := slz_set h e
    simp only [slz, List.set_cons_succ, List.map_cons, List.sum_cons] at this ⊢
    omega
