/-! THE REFERENCE READS: touch; all rules of orders hold -/
section TOS
variable {T : List Shp} {o : Int} {B : Int → Int} {L k : Int} {F : List Orc}
theorem mustw {c : Cm} {p v : Int} (h : ER c B L p) (hb : c 77 15 = 0) {R : Cm → Prop} (kF : ¬ isw B L p v → ∀ c', Fr LXB c c' → c' 77 15 = 1 → c' 77 14 = p → R c') (kT : isw B L p v → ∀ c', Fr NXR c c' → ER c' B L (nx B L p) → R c') : QV T R (ccal 223 [vR 78, vI (b01 ((c 77 12) = 1 ∧ (c 77 13) = v))] (SH T, c)) := by
  by_cases e : isw B L p v
  · rw [b01_t (h.w.mpr e)]
    exact (r_mustT h hb (by decide)).mono fun c' g => kT e c' g.1 g.2
  · rw [b01_f fun z => e (h.w.mp z)]
    exact must_bad (Ps := fun _ c' => R c') h hb (fun c' f a b _ => kF e c' f a b) 0
theorem to_85 {Q : Res → Prop} {K : Cm → Prop} {c c0 : Cm} {p2 n2 q : Int} {d1 d2 : Den} {out : Ou2} (ho : ¬ o = 0) (hh : HDP T Q K 328 (HO T)) (fr : Fr LXB c0 c) (kk : CNT o K c0 out) (l : LSu c o B L k p2 n2 q F) (z : ZOo c k q (5, 1, none, [d1, d2])) (H : (¬ isw B L p2 763528 ∧ out = .inl p2) ∨ (isw B L p2 763528 ∧ ∃ o3, RSN T o B L 4 0 (nx B L p2) n2 o3 ∧ (∀ f, o3 = .inl f → out = .inl f) ∧ ∀ p3 n3 d3, o3 = .inr (p3, n3, d3) → YO T o B L 2 k p3 n3 F (5, 1, none, [d1, d2, d3]) out)) : QV T (fun c2 => Q (HO T c2)) (cev 328 9 85 [vR 78, vI 5, vI (10 * k)] [] (SH T, c)) := by
  have kb := l.kb
  have hb := l.1.2.2.2.2.2.1
  refine W_X12_readOrder_85 (Q := QV T _) ⟨fun _ => ⟨fun _ => ?_, fun w => absurd hb.1 w⟩, fun w => absurd rfl w⟩
  refine mustw l.1.1 hb.1 (fun e c1 f1 a b => ⟨by omega, ?_⟩) fun e c1 f1 e1 => ⟨by omega, ?_⟩
  · have eo : out = .inl p2 := by
      rcases H with H | H
      · exact H.2
      · exact absurd H.1 e
    subst eo
    refine (o_sumBad a (by omega)).mono fun c2 g => ?_
    exact o_bad115 hh kk ((fr.trans f1).trans g.1) g.2.1 (g.2.2.trans b) kb
  · rcases H with H | ⟨_, o3, hX, hF, hT⟩
    · exact absurd e H.1
    · have l1 := l.next f1 e1
      have z1 := z.nxr f1
      have f01 := fr.trans (f1.mono fun q j a => a.rxa.lxb)
      have S := o_sum (x := 2) ho l1 (by decide) hX
      rw [show 10 * k + 1 + 2 * ((2 : Nat) : Int) = 10 * k + 5 from by omega, show 10 * k + 2 + 2 * ((2 : Nat) : Int) = 10 * k + 6 from by omega] at S
      refine S.mono fun c4 g => ?_
      obtain ⟨f4, g⟩ := g
      rcases o3 with f | ⟨p3, n3, d3⟩
      · have ef := hF f rfl
        subst ef
        exact o_bad115 hh kk (f01.trans f4) g.1 g.2 kb
      · obtain ⟨l4, w, hs, hq, hp⟩ := g
        have z4 := ZOo.sum (x := 2) z1 rfl (fun j a b => w j (by omega) (by omega)) hs hq (by rw [show 10 * k + 1 + 2 * ((2 : Nat) : Int) = 10 * k + 5 from by omega, show 10 * k + 2 + 2 * ((2 : Nat) : Int) = 10 * k + 6 from by omega]; exact hp)
        exact hT p3 n3 d3 rfl Q K hh ho c4 _ l4 rfl rfl z4 (kk.fr (f01.trans f4))
theorem to_55 {Q : Res → Prop} {K : Cm → Prop} {c c0 : Cm} {p1 n1 q : Int} {d1 : Den} {out : Ou2} (ho : ¬ o = 0) (hh : HDP T Q K 328 (HO T)) (fr : Fr LXB c0 c) (kk : CNT o K c0 out) (l : LSu c o B L k p1 n1 q F) (z : ZOo c k q (5, 1, none, [d1])) (H : (¬ isw B L p1 52 ∧ out = .inl p1) ∨ (isw B L p1 52 ∧ ∃ o2, RSN T o B L 4 0 (nx B L p1) n1 o2 ∧ (∀ f, o2 = .inl f → out = .inl f) ∧ ∀ p2 n2 d2, o2 = .inr (p2, n2, d2) → ((¬ isw B L p2 763528 ∧ out = .inl p2) ∨ (isw B L p2 763528 ∧ ∃ o3, RSN T o B L 4 0 (nx B L p2) n2 o3 ∧ (∀ f, o3 = .inl f → out = .inl f) ∧ ∀ p3 n3 d3, o3 = .inr (p3, n3, d3) → YO T o B L 2 k p3 n3 F (5, 1, none, [d1, d2, d3]) out)))) : QV T (fun c2 => Q (HO T c2)) (cev 328 9 55 [vR 78, vI 5, vI (10 * k)] [] (SH T, c)) := by
  have kb := l.kb
  have hb := l.1.2.2.2.2.2.1
  refine W_X12_readOrder_55 (Q := QV T _) ⟨fun _ => ⟨fun _ => ?_, fun w => absurd hb.1 w⟩, fun w => absurd rfl w⟩
  refine mustw l.1.1 hb.1 (fun e c1 f1 a b => ⟨by omega, ?_⟩) fun e c1 f1 e1 => ⟨by omega, ?_⟩
  · have eo : out = .inl p1 := by
      rcases H with H | H
      · exact H.2
      · exact absurd H.1 e
    subst eo
    refine (o_sumBad a (by omega)).mono fun c2 g => ?_
    exact o_bad85 hh kk ((fr.trans f1).trans g.1) g.2.1 (g.2.2.trans b) kb
  · rcases H with H | ⟨_, o2, hX, hF, hT⟩
    · exact absurd e H.1
    · have l1 := l.next f1 e1
      have z1 := z.nxr f1
      have f01 := fr.trans (f1.mono fun q j a => a.rxa.lxb)
      have S := o_sum (x := 1) ho l1 (by decide) hX
      rw [show 10 * k + 1 + 2 * ((1 : Nat) : Int) = 10 * k + 3 from by omega, show 10 * k + 2 + 2 * ((1 : Nat) : Int) = 10 * k + 4 from by omega] at S
      refine S.mono fun c4 g => ?_
      obtain ⟨f4, g⟩ := g
      rcases o2 with f | ⟨p2, n2, d2⟩
      · have ef := hF f rfl
        subst ef
        exact o_bad85 hh kk (f01.trans f4) g.1 g.2 kb
      · obtain ⟨l4, w, hs, hq, hp⟩ := g
        have z4 := ZOo.sum (x := 1) z1 rfl (fun j a b => w j (by omega) (by omega)) hs hq (by rw [show 10 * k + 1 + 2 * ((1 : Nat) : Int) = 10 * k + 3 from by omega, show 10 * k + 2 + 2 * ((1 : Nat) : Int) = 10 * k + 4 from by omega]; exact hp)
        exact to_85 ho hh (f01.trans f4) kk l4 z4 (hT p2 n2 d2 rfl)
theorem yo_touch {p n : Int} (ho : ¬ o = 0) (hk : k < 12) (e3 : tkw B L p WS1 = 3) {o1 : Out} {out : Ou2} (hX : RSN T o B L 4 0 (nx B L p) n o1) (hF : ∀ f, o1 = .inl f → out = .inl f) (hT : ∀ p1 n1 d1, o1 = .inr (p1, n1, d1) → ((¬ isw B L p1 52 ∧ out = .inl p1) ∨ (isw B L p1 52 ∧ ∃ o2, RSN T o B L 4 0 (nx B L p1) n1 o2 ∧ (∀ f, o2 = .inl f → out = .inl f) ∧ ∀ p2 n2 d2, o2 = .inr (p2, n2, d2) → ((¬ isw B L p2 763528 ∧ out = .inl p2) ∨ (isw B L p2 763528 ∧ ∃ o3, RSN T o B L 4 0 (nx B L p2) n2 o3 ∧ (∀ f, o3 = .inl f → out = .inl f) ∧ ∀ p3 n3 d3, o3 = .inr (p3, n3, d3) → YO T o B L 2 k p3 n3 F (5, 1, none, [d1, d2, d3]) out))))) : YO T o B L 0 k p n F zo out := by
  intro Q K hh c q hl kk
  refine W_X12_readOrder (Q := QV T _) (oh_other hl hk (by omega) fun c' f e' => ?_)
  have lt := hl.next f e'
  rw [e3, show (3 : Int) + 2 = 5 from rfl]
  refine yo_row ho hk lt (fun _ c3 l z f3 => ?_) fun _ z => absurd rfl z
  have kb := l.kb
  have f03 := (f.mono fun q j a => a.rxa.lxb).trans f3
  refine W_X12_readOrder_48 (Q := QV T _) ⟨by omega, ?_⟩
  have S := o_sum (x := 0) ho l (by decide) hX
  rw [show 10 * k + 1 + 2 * ((0 : Nat) : Int) = 10 * k + 1 from by omega, show 10 * k + 2 + 2 * ((0 : Nat) : Int) = 10 * k + 2 from by omega] at S
  refine S.mono fun c4 g => ?_
  obtain ⟨f4, g⟩ := g
  rcases o1 with f | ⟨p1, n1, d⟩
  · have ef := hF f rfl
    subst ef
    exact o_bad55 hh kk (f03.trans f4) g.1 g.2 kb
  · obtain ⟨l4, w, hs, hq, hp⟩ := g
    have z4 := ZOo.sum (x := 0) z rfl (fun j a b => w j (by omega) (by omega)) hs hq (by rw [show 10 * k + 1 + 2 * ((0 : Nat) : Int) = 10 * k + 1 from by omega, show 10 * k + 2 + 2 * ((0 : Nat) : Int) = 10 * k + 2 from by omega]; exact hp)
    exact to_55 ho hh (f03.trans f4) kk l4 z4 (hT p1 n1 d rfl)
end TOS
theorem yo_gram {T : List Shp} {o : Int} {B : Int → Int} {L : Int} (ho : ¬ o = 0) : GYr o B L (RS T o B L) (YO T o B L) := by
  have no : ∀ {x : Prop}, o = 0 → x := fun h => absurd h ho
  have inj : ∀ {p n p' n' : Int} {d d' : Den}, (Sum.inr (p, n, d) : Out) = .inr (p', n', d') → p = p' ∧ n = n' ∧ d = d' := by
    intro p n p' n' d d' h
    injection h with h
    injection h with h1 h
    injection h with h2 h3
    exact ⟨h1, h2, h3⟩
  refine ⟨fun k p n F h => yo_bad (.inr (by omega)), fun k p n F h => no h, fun k p n F out h => no h, fun k p n F h f h0 => no h0, fun k p n F h p1 n1 d out h0 => no h0, ?_⟩
  refine ⟨fun k p n F _ h1 h2 => yo_bad (.inl h2), fun k p n F _ h1 h2 h3 => yo_or2 h1 h2 h3, fun k p n F h out _ h1 h2 h3 h4 h5 h6 => yo_plain ho h1 (.inl ⟨h2, h3, h4, h5, h6⟩), fun k p n F f _ h1 h2 h3 h4 => yo_by ho h1 h2 h3 h4 (fun g e => by injection e with e; rw [e]) (fun p1 n1 d e => by injection e), fun k p n F p1 n1 d out _ h1 h2 h3 h4 h5 => yo_by ho h1 h2 h3 h4 (fun g e => by injection e) (fun p2 n2 d2 e => by obtain ⟨e1, e2, e3⟩ := inj e; subst e1 e2 e3; exact h5), fun k p n F h out _ h1 h2 h3 h4 => yo_plain ho h1 (.inr ⟨by omega, by omega, h4⟩), ?_⟩
  refine ⟨fun k p n F f _ h1 h2 h3 => yo_touch ho h1 h2 h3 (fun g e => by injection e with e; rw [e]) (fun p1 n1 d e => by injection e), ?_⟩
  refine ⟨fun k p n F p1 n1 d1 _ h1 h2 h3 h4 => yo_touch ho h1 h2 h3 (fun g e => by injection e) (fun p2 n2 d2 e => by obtain ⟨e1, e2, e3⟩ := inj e; subst e1 e2 e3; exact .inl ⟨h4, rfl⟩), ?_⟩
  refine ⟨fun k p n F p1 n1 f d1 _ h1 h2 h3 h4 h5 => yo_touch ho h1 h2 h3 (fun g e => by injection e) (fun p2 n2 d2 e => by obtain ⟨e1, e2, e3⟩ := inj e; subst e1 e2 e3; exact .inr ⟨h4, _, h5, (fun g e => by injection e with e; rw [e]), fun p1 n1 d e => by injection e⟩), ?_⟩
  refine ⟨fun k p n F p1 n1 p2 n2 d1 d2 _ h1 h2 h3 h4 h5 h6 => yo_touch ho h1 h2 h3 (fun g e => by injection e) (fun q1 m1 e1 e => by obtain ⟨a1, a2, a3⟩ := inj e; subst a1 a2 a3; exact .inr ⟨h4, _, h5, (fun g e => by injection e), fun q2 m2 e2 e => by obtain ⟨a1, a2, a3⟩ := inj e; subst a1 a2 a3; exact .inl ⟨h6, rfl⟩⟩), ?_⟩
  refine ⟨fun k p n F p1 n1 p2 n2 f d1 d2 _ h1 h2 h3 h4 h5 h6 h7 => yo_touch ho h1 h2 h3 (fun g e => by injection e) (fun q1 m1 e1 e => by obtain ⟨a1, a2, a3⟩ := inj e; subst a1 a2 a3; exact .inr ⟨h4, _, h5, (fun g e => by injection e), fun q2 m2 e2 e => by obtain ⟨a1, a2, a3⟩ := inj e; subst a1 a2 a3; exact .inr ⟨h6, _, h7, (fun g e => by injection e with e; rw [e]), fun q3 m3 e3 e => by injection e⟩⟩), ?_⟩
  refine ⟨fun k p n F p1 n1 p2 n2 p3 n3 d1 d2 d3 out _ h1 h2 h3 h4 h5 h6 h7 h8 => yo_touch ho h1 h2 h3 (fun g e => by injection e) (fun q1 m1 e1 e => by obtain ⟨a1, a2, a3⟩ := inj e; subst a1 a2 a3; exact .inr ⟨h4, _, h5, (fun g e => by injection e), fun q2 m2 e2 e => by obtain ⟨a1, a2, a3⟩ := inj e; subst a1 a2 a3; exact .inr ⟨h6, _, h7, (fun g e => by injection e), fun q3 m3 e3 e => by obtain ⟨a1, a2, a3⟩ := inj e; subst a1 a2 a3; exact h8⟩⟩), ?_⟩
  refine ⟨fun k p n F z out h0 h1 => yo_ti1 h0 h1, fun k p n F z h0 h1 => yo_ti2 h0 h1, fun k p n F z out h0 h1 h2 => yo_ti3 h0 h1 h2, fun k p n F z out h0 h1 => yo_if1 ho h0 h1, fun k p n F z f h0 h1 => yo_if2 ho h0 h1, fun k p n F z p1 n1 t out h0 h1 h2 => yo_if3 ho h0 h1 h2, ?_⟩
  exact ⟨fun k p n F h => yr_af1 h, fun k p n F out h h1 => yr_af2 h h1, fun k p n F h h1 => yr_af3 h h1⟩
