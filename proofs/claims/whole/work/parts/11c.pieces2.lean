/-! PIECES: words, not, two behind one another -/
theorem PCA_word {T : List Shp} {x : Int} {u v : Nat} {S W : Int → Int} {n p k : Int} (hx : TXA T x u v) (hp : 0 ≤ p ∧ p < n) (hn : n ≤ 450) (hS : S p = 1 + 16 * k) (hk : 0 ≤ k ∧ k < 10) (hl : ∀ n5 n2 f3 f6, drf (SH T) x = some (u, (20, n2, f3)) → drf (SH T) (f3.getD 1 0) = some (v, (0, n5, f6)) → n ≤ n5) : PCA T x u v S W n 1 p (p + 1) (some (W k)) := by
  intro Q c t h hst hh h0 hneed ht htq _ hok
  obtain ⟨n2, f3, n5, f6, e1, e2, hu, hv⟩ := hx
  have nl := hl n5 n2 f3 f6 e1 e2
  have dd := deed_of (d := 1) (k := k) (by omega) (by omega)
  refine W_X3_worksa_11 (p1 := u) (n2 := n2) (f3 := f3) (p4 := v) (n5 := n5) (f6 := f6) ⟨fun _ => ⟨e1, ?_⟩, fun z => absurd (show t < 450 by omega) z⟩
  rw [hst.2.1, hst.1, hS, dd.1, dd.2]
  refine ⟨fun _ => ⟨⟨e1, e2, by omega, by omega⟩, fun z => absurd z (by decide), fun _ => ⟨fun _ => ?_, fun z => absurd rfl z⟩⟩, fun z => absurd hp z⟩
  refine W_X3_worksa_68 ⟨fun _ => ⟨fun _ => ⟨fun _ => ?_, fun z => absurd hk.2 z⟩, fun z => absurd rfl z⟩, fun z => absurd (show c 15 1 < 100 by omega) z⟩
  refine W_X3_worksa_95 ⟨fun z => absurd z (by decide), fun _ => ⟨by omega, ?_⟩⟩
  rw [hh, hst.2.2 k hk.1 hk.2]
  refine hok (W k) rfl _ (t + 1) ((Off.rfl.wr rfl).wr rfl) up_same ?_ (fun j a b => ?_) (by omega) (by omega)
  · rw [up_cell (by decide), up_same]
  · rw [up_cell (by decide), up_ne (by omega)]
/-- 1 less the value -/
theorem PCA_not {T : List Shp} {x : Int} {u v : Nat} {S W : Int → Int} {n p q need : Int} {o : Option Int} (hx : TXA T x u v) (hpq : 0 ≤ p ∧ p ≤ q) (hq : q < n) (hn : n ≤ 450) (h1 : PCA T x u v S W n need p q o) (hneed : 1 ≤ need) (hb : ∀ y, o = some y → -1000000000 ≤ y ∧ y ≤ 1000000000) (hS : S q = 9 + 16 * 0) (hl : ∀ n5 n2 f3 f6, drf (SH T) x = some (u, (20, n2, f3)) → drf (SH T) (f3.getD 1 0) = some (v, (0, n5, f6)) → n ≤ n5) : PCA T x u v S W n need p (q + 1) (o.map fun y => 1 - y) := by
  intro Q c t h hst hh h0 hn2 ht htq hno hok
  obtain ⟨n2, f3, n5, f6, e1, e2, hu, hv⟩ := hx
  have nl := hl n5 n2 f3 f6 e1 e2
  have dd := deed_of (d := 9) (k := 0) (by omega) (by omega)
  refine h1 Q c t h hst hh h0 hn2 ht (by omega) (fun e => hno (by rw [e]; rfl)) fun y ey c1 t1 o1 k1 k2 k3 k4 k5 => ?_
  have st1 := hst.off o1 hu hv
  have yb := hb y ey
  refine W_X3_worksa_11 (p1 := u) (n2 := n2) (f3 := f3) (p4 := v) (n5 := n5) (f6 := f6) ⟨fun _ => ⟨e1, ?_⟩, fun z => absurd (show t1 < 450 by omega) z⟩
  rw [st1.2.1, st1.1, hS, dd.1, dd.2, k1, show h + 1 - 1 = h from by omega, k2]
  refine ⟨fun _ => ⟨⟨e1, e2, by omega, by omega⟩, fun z => absurd z (by decide), fun _ => ⟨fun z => absurd z (by decide), fun _ => ⟨fun z => absurd z (by omega), fun _ => ⟨fun z => absurd z (by decide), fun _ => ⟨fun _ => ⟨by omega, ?_⟩, fun z => absurd rfl z⟩⟩⟩⟩⟩, fun z => absurd (show 0 ≤ q ∧ q < n by omega) z⟩
  refine hok (1 - y) (by rw [ey]; rfl) _ (t1 + 1) (o1.wr rfl) ?_ up_same (fun j a b => ?_) (by omega) (by omega)
  · rw [up_cell (by decide)]; exact k1
  · rw [up_ne (by omega)]; exact k3 j a b
