/-! PIECES: two pieces and what joins them -/
theorem PCA_bin {T : List Shp} {x : Int} {u v : Nat} {S W : Int → Int} {n p m q d n1 n2 : Int} {o1 o2 : Option Int} (hx : TXA T x u v) (hpq : 0 ≤ p ∧ p ≤ m ∧ m ≤ q) (hq : q < n) (hn : n ≤ 450) (hd : 2 ≤ d ∧ d ≤ 8) (h1 : PCA T x u v S W n n1 p m o1) (h2 : PCA T x u v S W n n2 m q o2) (hn1 : 1 ≤ n1) (hn2 : 1 ≤ n2) (b1 : ∀ y, o1 = some y → -1000000000 ≤ y ∧ y ≤ 1000000000) (b2 : ∀ y, o2 = some y → -1000000000 ≤ y ∧ y ≤ 1000000000) (hS : S q = d + 16 * 0) (hl : ∀ n5 n2 f3 f6, drf (SH T) x = some (u, (20, n2, f3)) → drf (SH T) (f3.getD 1 0) = some (v, (0, n5, f6)) → n ≤ n5) : PCA T x u v S W n (if n1 < n2 + 1 then n2 + 1 else n1) p (q + 1) (o1.bind fun a => o2.bind fun b => bin d a b) := by
  intro Q c t h hst hh h0 hneed ht htq hno hok
  have nb : h + n1 ≤ 100 ∧ h + 1 + n2 ≤ 100 := by split at hneed <;> omega
  obtain ⟨m2, f3, n5, f6, e1, e2, hu, hv⟩ := hx
  have nl := hl n5 m2 f3 f6 e1 e2
  have dd := deed_of (d := d) (k := 0) (by omega) (by omega)
  refine h1 Q c t h hst hh h0 nb.1 ht (by omega) (fun e => hno (by rw [e]; rfl)) fun a ea c1 t1 q1 k1 k2 k3 k4 k5 => ?_
  have st1 := hst.off q1 hu hv
  have ab := b1 a ea
  refine h2 Q c1 t1 (h + 1) st1 k1 (by omega) nb.2 (by omega) (by omega) (fun e c' oc => hno (by rw [ea, e]; rfl) c' (q1.trans oc)) fun b eb c2 t2 q2 j1 j2 j3 j4 j5 => ?_
  have st2 := st1.off q2 hu hv
  have bb := b2 b eb
  have o12 := q1.trans q2
  have ka : c2 16 h = a := (j3 h h0 (by omega)).trans k2
  have eo : (o1.bind fun a => o2.bind fun b => bin d a b) = bin d a b := by rw [ea, eb]; rfl
  rw [eo] at hno hok
  refine W_X3_worksa_11 (p1 := u) (n2 := m2) (f3 := f3) (p4 := v) (n5 := n5) (f6 := f6) ⟨fun _ => ⟨e1, ?_⟩, fun z => absurd (show t2 < 450 by omega) z⟩
  rw [st2.2.1, st2.1, hS, dd.1, dd.2, j1]
  refine ⟨fun _ => ⟨⟨e1, e2, by omega, by omega⟩, fun z => absurd z (by omega), fun _ => ⟨fun z => absurd z (by omega), fun _ => ⟨fun z => absurd z (by omega), fun _ => ⟨fun z => absurd z (by omega), fun _ => ⟨fun z => absurd z (by omega), fun _ => ⟨fun z => absurd z (by omega), fun _ => ⟨fun z => absurd z (by omega), fun _ => ?_⟩⟩⟩⟩⟩⟩⟩, fun z => absurd (show 0 ≤ q ∧ q < n by omega) z⟩
  refine (c_joinsa (a := a) (b := b) (H := h + 2) hd (by omega) (by omega) (by rw [show h + 2 - 2 = h from by omega]; exact ka) (by rw [show h + 2 - 1 = h + 1 from by omega]; exact j2) ab bb).mono fun r c3 h3 => ?_
  obtain ⟨r0, r1, k, oc⟩ := h3
  rw [show h + 2 - 2 = h from by omega] at r1 k
  rw [show h + 2 - 1 = h + 1 from by omega] at r1
  cases e : bin d a b with
  | none => exact ⟨fun _ => hno e c3 (o12.trans oc), fun z => absurd (r0 e) z⟩
  | some y =>
    have r1' := r1 y e
    refine ⟨fun z => by omega, fun _ => ⟨by omega, ?_⟩⟩
    exact hok y e c3 (t2 + 1) (o12.trans oc) r1'.2.1 r1'.2.2 (fun j a' b' => ((k j (by omega)).trans (j3 j a' (by omega))).trans (k3 j a' b')) (by omega) (by omega)
