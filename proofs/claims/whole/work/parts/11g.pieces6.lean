/-! PIECES: or, and (d = 10, 11): what stands behind is asked only if it can still matter -/
theorem PCA_or {T : List Shp} {x : Int} {u v : Nat} {S W : Int → Int} {n p m q d n1 n2 : Int} {o1 o2 : Option Int} (hx : TXA T x u v) (hpq : 0 ≤ p ∧ p ≤ m ∧ m + 1 ≤ q) (hq : q ≤ n) (hn : n ≤ 450) (hd : d = 10 ∨ d = 11) (h1 : PCA T x u v S W n n1 p m o1) (h2 : PCA T x u v S W n n2 (m + 1) q o2) (hn1 : 1 ≤ n1) (hS : S m = d + 16 * q) (hl : ∀ n5 n2 f3 f6, drf (SH T) x = some (u, (20, n2, f3)) → drf (SH T) (f3.getD 1 0) = some (v, (0, n5, f6)) → n ≤ n5) : PCA T x u v S W n (if n1 < n2 then n2 else n1) p q (o1.bind fun a => if a = (if d = 10 then 1 else 0) then some a else o2) := by
  intro Q c t h hst hh h0 hneed ht htq hno hok
  have nb : h + n1 ≤ 100 ∧ h + n2 ≤ 100 := by split at hneed <;> omega
  obtain ⟨m2, f3, n5, f6, e1, e2, hu, hv⟩ := hx
  have nl := hl n5 m2 f3 f6 e1 e2
  have dd := deed_of (d := d) (k := q) (by omega) (by omega)
  refine h1 Q c t h hst hh h0 nb.1 ht (by omega) (fun e => hno (by rw [e]; rfl)) fun a ea c1 t1 q1 k1 k2 k3 k4 k5 => ?_
  have st1 := hst.off q1 hu hv
  have eo : (o1.bind fun a => if a = (if d = 10 then 1 else 0) then some a else o2) = if a = (if d = 10 then 1 else 0) then some a else o2 := by rw [ea]; rfl
  rw [eo] at hno hok
  have last : ∀ y0 : Int, y0 = (if d = 10 then 1 else 0) → Q (cev 20 2 231 [vR 16, vR x, vU, vR 18, vI (m + 1), vI t1, vU, vI q] [vI y0, vI a] (SH T, c1)) := by
    intro y0 ey
    rw [← ey] at hno hok
    refine W_X3_worksa_231 ⟨fun e => ⟨by omega, ?_⟩, fun e => ⟨by omega, ?_⟩⟩
    · rw [if_pos e] at hok
      exact hok a rfl c1 (t1 + 1) q1 k1 k2 k3 (by omega) (by omega)
    · rw [if_neg e] at hno hok
      rw [k1, show h + 1 - 1 = h from by omega]
      have ow : Off [15, 16] [] c1 (up c1 15 1 h) := Off.rfl.wr rfl
      refine h2 Q (up c1 15 1 h) (t1 + 1) h (st1.off ow hu hv) up_same h0 nb.2 (by omega) (by omega) (fun e c' oc => hno e c' ((q1.trans ow).trans oc)) fun b eb c2 t2 q2 j1 j2 j3 j4 j5 => ?_
      refine hok b eb c2 t2 ((q1.trans ow).trans q2) j1 j2 (fun j a' b' => ?_) (by omega) (by omega)
      rw [j3 j a' b', up_cell (by decide)]
      exact k3 j a' b'
  refine W_X3_worksa_11 (p1 := u) (n2 := m2) (f3 := f3) (p4 := v) (n5 := n5) (f6 := f6) ⟨fun _ => ⟨e1, ?_⟩, fun z => absurd (show t1 < 450 by omega) z⟩
  rw [st1.2.1, st1.1, hS, dd.1, dd.2, k1]
  refine ⟨fun _ => ⟨⟨e1, e2, by omega, by omega⟩, fun z => absurd z (by omega), fun _ => ⟨fun z => absurd z (by omega), fun _ => ⟨fun z => absurd z (by omega), fun _ => ⟨fun z => absurd z (by omega), fun _ => ⟨fun z => absurd z (by omega), fun _ => ⟨fun z => ?_, fun z => ⟨fun z2 => ?_, fun z2 => absurd hd (by omega)⟩⟩⟩⟩⟩⟩⟩, fun z => absurd (show 0 ≤ m ∧ m < n by omega) z⟩
  · refine W_X3_worksa_208 ⟨by omega, fun y => ?_, fun y => absurd z y⟩
    rw [k1, show h + 1 - 1 = h from by omega, k2]
    exact last 1 (by rw [if_pos z])
  · refine W_X3_worksa_208 ⟨by omega, fun y => absurd y z, fun y => ?_⟩
    rw [k1, show h + 1 - 1 = h from by omega, k2]
    exact last 0 (by rw [if_neg z])
