/-! THE GRAMMAR of sums and tests: rules for a predicate X: mode (0 part, 1 term's loop, 2 term, 3 sum's loop, 4 sum, 5 plain, 6 both's loop, 7 both, 8 test's loop, 9 test), brackets, place, parts so far, what is read so far (loops), what comes of it: the place of the fault, or the place behind, parts, meaning. o: 0 a law. -/
abbrev Out : Type := Int ⊕ (Int × Int × Den)
def dz : Den := fun _ => none
def WSx (o : Int) : List Int := if o = 0 then WS11 else WS10
def NWx (o : Int) : Int := if o = 0 then 10 else 18
abbrev GX : Type := Nat → Int → Int → Int → Den → Out → Prop
def GRr (o : Int) (B : Int → Int) (L : Int) (X : GX) : Prop :=
  (∀ (b p n : Int), (isg B L p 91) → (¬ b < 8) → X 0 b p n dz (.inl p)) ∧
  (∀ (b p n : Int) (f : Int), (isg B L p 91) → (b < 8) → (X 4 (b + 1) (nx B L p) n dz (.inl f)) → X 0 b p n dz (.inl f)) ∧
  (∀ (b p n : Int) (p1 n1 : Int) (d : Den), (isg B L p 91) → (b < 8) → (X 4 (b + 1) (nx B L p) n dz (.inr (p1, n1, d))) → (¬ isg B L p1 93) → X 0 b p n dz (.inl p1)) ∧
  (∀ (b p n : Int) (p1 n1 : Int) (d : Den), (isg B L p 91) → (b < 8) → (X 4 (b + 1) (nx B L p) n dz (.inr (p1, n1, d))) → (isg B L p1 93) → X 0 b p n dz (.inr ((nx B L p1), n1, d))) ∧
  (∀ (b p n : Int), (kd B L p = 1) → (1000 < nc B L p ∨ ¬ n < 50) → X 0 b p n dz (.inl p)) ∧
  (∀ (b p n : Int), (kd B L p = 1) → (¬ 1000 < nc B L p) → (n < 50) → X 0 b p n dz (.inr ((nx B L p), n + 1, fun _ => some (nc B L p)))) ∧
  (∀ (b p n : Int), (¬ isg B L p 91) → (¬ kd B L p = 1) → (tkw B L p (WSx o) = -1 ∨ ¬ n < 50) → X 0 b p n dz (.inl p)) ∧
  (∀ (b p n : Int) (w : Int), (¬ isg B L p 91) → (¬ kd B L p = 1) → (tkw B L p (WSx o) = w) → (¬ w = -1) → (n < 50) → (¬ (¬ o = 0 ∧ w = 6)) → X 0 b p n dz (.inr ((nx B L p), n + 1, fun W => some (W (w + 1))))) ∧
  (∀ (b p n : Int), (¬ isg B L p 91) → (¬ kd B L p = 1) → (tkw B L p (WSx o) = 6) → (n < 50) → (¬ o = 0) → (¬ kd B L (nx B L p) = 1 ∨ ¬ nc B L (nx B L p) < 12) → X 0 b p n dz (.inl (nx B L p))) ∧
  (∀ (b p n : Int), (¬ isg B L p 91) → (¬ kd B L p = 1) → (tkw B L p (WSx o) = 6) → (n < 50) → (¬ o = 0) → (kd B L (nx B L p) = 1) → (nc B L (nx B L p) < 12) → X 0 b p n dz (.inr ((nx B L (nx B L p)), n + 1, fun W => some (W (6 + nc B L (nx B L p) + 1))))) ∧
  (∀ (b p n : Int) (d : Den), (¬ isg B L p 42) → (¬ isg B L p 47) → X 1 b p n d (.inr (p, n, d))) ∧
  (∀ (b p n : Int) (dd f : Int) (d : Den), ((isg B L p 42 ∧ dd = 4) ∨ (isg B L p 47 ∧ dd = 5)) → (X 0 b (nx B L p) n dz (.inl f)) → X 1 b p n d (.inl f)) ∧
  (∀ (b p n : Int) (dd p1 n1 : Int) (d d1 : Den) (out : Out), ((isg B L p 42 ∧ dd = 4) ∨ (isg B L p 47 ∧ dd = 5)) → (X 0 b (nx B L p) n dz (.inr (p1, n1, d1))) → (X 1 b p1 n1 (dbin dd d d1) out) → X 1 b p n d out) ∧
  (∀ (b p n : Int) (f : Int), (X 0 b p n dz (.inl f)) → X 2 b p n dz (.inl f)) ∧
  (∀ (b p n : Int) (p1 n1 : Int) (d1 : Den) (out : Out), (X 0 b p n dz (.inr (p1, n1, d1))) → (X 1 b p1 n1 d1 out) → X 2 b p n dz out) ∧
  (∀ (b p n : Int) (d : Den), (¬ isg B L p 43) → (¬ isg B L p 45) → X 3 b p n d (.inr (p, n, d))) ∧
  (∀ (b p n : Int) (dd f : Int) (d : Den), ((isg B L p 43 ∧ dd = 2) ∨ (isg B L p 45 ∧ dd = 3)) → (X 2 b (nx B L p) n dz (.inl f)) → X 3 b p n d (.inl f)) ∧
  (∀ (b p n : Int) (dd p1 n1 : Int) (d d1 : Den) (out : Out), ((isg B L p 43 ∧ dd = 2) ∨ (isg B L p 45 ∧ dd = 3)) → (X 2 b (nx B L p) n dz (.inr (p1, n1, d1))) → (X 3 b p1 n1 (dbin dd d d1) out) → X 3 b p n d out) ∧
  (∀ (b p n : Int) (f : Int), (X 2 b p n dz (.inl f)) → X 4 b p n dz (.inl f)) ∧
  (∀ (b p n : Int) (p1 n1 : Int) (d1 : Den) (out : Out), (X 2 b p n dz (.inr (p1, n1, d1))) → (X 3 b p1 n1 d1 out) → X 4 b p n dz out) ∧
  (∀ (b p n : Int) (f : Int), (isw B L p 14836) → (X 5 b (nx B L p) n dz (.inl f)) → X 5 b p n dz (.inl f)) ∧
  (∀ (b p n : Int) (p1 n1 : Int) (d : Den), (isw B L p 14836) → (X 5 b (nx B L p) n dz (.inr (p1, n1, d))) → X 5 b p n dz (.inr (p1, n1, dnot d))) ∧
  (∀ (b p n : Int), (isg B L p 40) → (¬ b < 8) → X 5 b p n dz (.inl p)) ∧
  (∀ (b p n : Int) (f : Int), (isg B L p 40) → (b < 8) → (X 9 (b + 1) (nx B L p) n dz (.inl f)) → X 5 b p n dz (.inl f)) ∧
  (∀ (b p n : Int) (p1 n1 : Int) (d : Den), (isg B L p 40) → (b < 8) → (X 9 (b + 1) (nx B L p) n dz (.inr (p1, n1, d))) → (¬ isg B L p1 41) → X 5 b p n dz (.inl p1)) ∧
  (∀ (b p n : Int) (p1 n1 : Int) (d : Den), (isg B L p 40) → (b < 8) → (X 9 (b + 1) (nx B L p) n dz (.inr (p1, n1, d))) → (isg B L p1 41) → X 5 b p n dz (.inr ((nx B L p1), n1, d))) ∧
  (∀ (b p n : Int) (f : Int), (¬ isw B L p 14836) → (¬ isg B L p 40) → (X 4 b p n dz (.inl f)) → X 5 b p n dz (.inl f)) ∧
  (∀ (b p n : Int) (p1 n1 : Int) (d : Den), (¬ isw B L p 14836) → (¬ isg B L p 40) → (X 4 b p n dz (.inr (p1, n1, d))) → (¬ isg B L p1 60) → (¬ isg B L p1 62) → (¬ isg B L p1 61) → X 5 b p n dz (.inl p1)) ∧
  (∀ (b p n : Int) (dd p1 n1 f : Int) (d : Den), (¬ isw B L p 14836) → (¬ isg B L p 40) → (X 4 b p n dz (.inr (p1, n1, d))) → ((isg B L p1 60 ∧ dd = 6) ∨ (isg B L p1 62 ∧ dd = 7) ∨ (isg B L p1 61 ∧ dd = 8)) → (X 4 b (nx B L p1) n1 dz (.inl f)) → X 5 b p n dz (.inl f)) ∧
  (∀ (b p n : Int) (dd p1 n1 p2 n2 : Int) (d d2 : Den), (¬ isw B L p 14836) → (¬ isg B L p 40) → (X 4 b p n dz (.inr (p1, n1, d))) → ((isg B L p1 60 ∧ dd = 6) ∨ (isg B L p1 62 ∧ dd = 7) ∨ (isg B L p1 61 ∧ dd = 8)) → (X 4 b (nx B L p1) n1 dz (.inr (p2, n2, d2))) → X 5 b p n dz (.inr (p2, n2, dbin dd d d2))) ∧
  (∀ (b p n : Int) (d : Den), (¬ isw B L p 1476) → X 6 b p n d (.inr (p, n, d))) ∧
  (∀ (b p n : Int) (f : Int) (d : Den), (isw B L p 1476) → (X 5 b (nx B L p) n dz (.inl f)) → X 6 b p n d (.inl f)) ∧
  (∀ (b p n : Int) (p1 n1 : Int) (d d1 : Den) (out : Out), (isw B L p 1476) → (X 5 b (nx B L p) n dz (.inr (p1, n1, d1))) → (X 6 b p1 n1 (dor 11 d d1) out) → X 6 b p n d out) ∧
  (∀ (b p n : Int) (f : Int), (X 5 b p n dz (.inl f)) → X 7 b p n dz (.inl f)) ∧
  (∀ (b p n : Int) (p1 n1 : Int) (d1 : Den) (out : Out), (X 5 b p n dz (.inr (p1, n1, d1))) → (X 6 b p1 n1 d1 out) → X 7 b p n dz out) ∧
  (∀ (b p n : Int) (d : Den), (¬ isw B L p 498) → X 8 b p n d (.inr (p, n, d))) ∧
  (∀ (b p n : Int) (f : Int) (d : Den), (isw B L p 498) → (X 7 b (nx B L p) n dz (.inl f)) → X 8 b p n d (.inl f)) ∧
  (∀ (b p n : Int) (p1 n1 : Int) (d d1 : Den) (out : Out), (isw B L p 498) → (X 7 b (nx B L p) n dz (.inr (p1, n1, d1))) → (X 8 b p1 n1 (dor 10 d d1) out) → X 8 b p n d out) ∧
  (∀ (b p n : Int) (f : Int), (X 7 b p n dz (.inl f)) → X 9 b p n dz (.inl f)) ∧
  (∀ (b p n : Int) (p1 n1 : Int) (d1 : Den) (out : Out), (X 7 b p n dz (.inr (p1, n1, d1))) → (X 8 b p1 n1 d1 out) → X 9 b p n dz out)
section GRS
variable {o : Int} {B : Int → Int} {L : Int} {X : GX}
theorem GRr.pa1 (hX : GRr o B L X) {b p n : Int} (h0 : isg B L p 91) (h1 : ¬ b < 8) : X 0 b p n dz (.inl p) := hX.1 b p n h0 h1
theorem GRr.pa2 (hX : GRr o B L X) {b p n : Int} {f : Int} (h0 : isg B L p 91) (h1 : b < 8) (h2 : X 4 (b + 1) (nx B L p) n dz (.inl f)) : X 0 b p n dz (.inl f) := hX.2.1 b p n f h0 h1 h2
theorem GRr.pa3 (hX : GRr o B L X) {b p n : Int} {p1 n1 : Int} {d : Den} (h0 : isg B L p 91) (h1 : b < 8) (h2 : X 4 (b + 1) (nx B L p) n dz (.inr (p1, n1, d))) (h3 : ¬ isg B L p1 93) : X 0 b p n dz (.inl p1) := hX.2.2.1 b p n p1 n1 d h0 h1 h2 h3
theorem GRr.pa4 (hX : GRr o B L X) {b p n : Int} {p1 n1 : Int} {d : Den} (h0 : isg B L p 91) (h1 : b < 8) (h2 : X 4 (b + 1) (nx B L p) n dz (.inr (p1, n1, d))) (h3 : isg B L p1 93) : X 0 b p n dz (.inr ((nx B L p1), n1, d)) := hX.2.2.2.1 b p n p1 n1 d h0 h1 h2 h3
theorem GRr.pa5 (hX : GRr o B L X) {b p n : Int} (h0 : kd B L p = 1) (h1 : 1000 < nc B L p ∨ ¬ n < 50) : X 0 b p n dz (.inl p) := hX.2.2.2.2.1 b p n h0 h1
theorem GRr.pa6 (hX : GRr o B L X) {b p n : Int} (h0 : kd B L p = 1) (h1 : ¬ 1000 < nc B L p) (h2 : n < 50) : X 0 b p n dz (.inr ((nx B L p), n + 1, fun _ => some (nc B L p))) := hX.2.2.2.2.2.1 b p n h0 h1 h2
theorem GRr.pa7 (hX : GRr o B L X) {b p n : Int} (h0 : ¬ isg B L p 91) (h1 : ¬ kd B L p = 1) (h2 : tkw B L p (WSx o) = -1 ∨ ¬ n < 50) : X 0 b p n dz (.inl p) := hX.2.2.2.2.2.2.1 b p n h0 h1 h2
theorem GRr.pa8 (hX : GRr o B L X) {b p n : Int} {w : Int} (h0 : ¬ isg B L p 91) (h1 : ¬ kd B L p = 1) (h2 : tkw B L p (WSx o) = w) (h3 : ¬ w = -1) (h4 : n < 50) (h5 : ¬ (¬ o = 0 ∧ w = 6)) : X 0 b p n dz (.inr ((nx B L p), n + 1, fun W => some (W (w + 1)))) := hX.2.2.2.2.2.2.2.1 b p n w h0 h1 h2 h3 h4 h5
theorem GRr.pa9 (hX : GRr o B L X) {b p n : Int} (h0 : ¬ isg B L p 91) (h1 : ¬ kd B L p = 1) (h2 : tkw B L p (WSx o) = 6) (h3 : n < 50) (h4 : ¬ o = 0) (h5 : ¬ kd B L (nx B L p) = 1 ∨ ¬ nc B L (nx B L p) < 12) : X 0 b p n dz (.inl (nx B L p)) := hX.2.2.2.2.2.2.2.2.1 b p n h0 h1 h2 h3 h4 h5
theorem GRr.pa10 (hX : GRr o B L X) {b p n : Int} (h0 : ¬ isg B L p 91) (h1 : ¬ kd B L p = 1) (h2 : tkw B L p (WSx o) = 6) (h3 : n < 50) (h4 : ¬ o = 0) (h5 : kd B L (nx B L p) = 1) (h6 : nc B L (nx B L p) < 12) : X 0 b p n dz (.inr ((nx B L (nx B L p)), n + 1, fun W => some (W (6 + nc B L (nx B L p) + 1)))) := hX.2.2.2.2.2.2.2.2.2.1 b p n h0 h1 h2 h3 h4 h5 h6
theorem GRr.te1 (hX : GRr o B L X) {b p n : Int} {d : Den} (h0 : ¬ isg B L p 42) (h1 : ¬ isg B L p 47) : X 1 b p n d (.inr (p, n, d)) := hX.2.2.2.2.2.2.2.2.2.2.1 b p n d h0 h1
theorem GRr.te2 (hX : GRr o B L X) {b p n : Int} {dd f : Int} {d : Den} (h0 : (isg B L p 42 ∧ dd = 4) ∨ (isg B L p 47 ∧ dd = 5)) (h1 : X 0 b (nx B L p) n dz (.inl f)) : X 1 b p n d (.inl f) := hX.2.2.2.2.2.2.2.2.2.2.2.1 b p n dd f d h0 h1
theorem GRr.te3 (hX : GRr o B L X) {b p n : Int} {dd p1 n1 : Int} {d d1 : Den} {out : Out} (h0 : (isg B L p 42 ∧ dd = 4) ∨ (isg B L p 47 ∧ dd = 5)) (h1 : X 0 b (nx B L p) n dz (.inr (p1, n1, d1))) (h2 : X 1 b p1 n1 (dbin dd d d1) out) : X 1 b p n d out := hX.2.2.2.2.2.2.2.2.2.2.2.2.1 b p n dd p1 n1 d d1 out h0 h1 h2
theorem GRr.te4 (hX : GRr o B L X) {b p n : Int} {f : Int} (h0 : X 0 b p n dz (.inl f)) : X 2 b p n dz (.inl f) := hX.2.2.2.2.2.2.2.2.2.2.2.2.2.1 b p n f h0
theorem GRr.te5 (hX : GRr o B L X) {b p n : Int} {p1 n1 : Int} {d1 : Den} {out : Out} (h0 : X 0 b p n dz (.inr (p1, n1, d1))) (h1 : X 1 b p1 n1 d1 out) : X 2 b p n dz out := hX.2.2.2.2.2.2.2.2.2.2.2.2.2.2.1 b p n p1 n1 d1 out h0 h1
theorem GRr.su1 (hX : GRr o B L X) {b p n : Int} {d : Den} (h0 : ¬ isg B L p 43) (h1 : ¬ isg B L p 45) : X 3 b p n d (.inr (p, n, d)) := hX.2.2.2.2.2.2.2.2.2.2.2.2.2.2.2.1 b p n d h0 h1
theorem GRr.su2 (hX : GRr o B L X) {b p n : Int} {dd f : Int} {d : Den} (h0 : (isg B L p 43 ∧ dd = 2) ∨ (isg B L p 45 ∧ dd = 3)) (h1 : X 2 b (nx B L p) n dz (.inl f)) : X 3 b p n d (.inl f) := hX.2.2.2.2.2.2.2.2.2.2.2.2.2.2.2.2.1 b p n dd f d h0 h1
theorem GRr.su3 (hX : GRr o B L X) {b p n : Int} {dd p1 n1 : Int} {d d1 : Den} {out : Out} (h0 : (isg B L p 43 ∧ dd = 2) ∨ (isg B L p 45 ∧ dd = 3)) (h1 : X 2 b (nx B L p) n dz (.inr (p1, n1, d1))) (h2 : X 3 b p1 n1 (dbin dd d d1) out) : X 3 b p n d out := hX.2.2.2.2.2.2.2.2.2.2.2.2.2.2.2.2.2.1 b p n dd p1 n1 d d1 out h0 h1 h2
theorem GRr.su4 (hX : GRr o B L X) {b p n : Int} {f : Int} (h0 : X 2 b p n dz (.inl f)) : X 4 b p n dz (.inl f) := hX.2.2.2.2.2.2.2.2.2.2.2.2.2.2.2.2.2.2.1 b p n f h0
theorem GRr.su5 (hX : GRr o B L X) {b p n : Int} {p1 n1 : Int} {d1 : Den} {out : Out} (h0 : X 2 b p n dz (.inr (p1, n1, d1))) (h1 : X 3 b p1 n1 d1 out) : X 4 b p n dz out := hX.2.2.2.2.2.2.2.2.2.2.2.2.2.2.2.2.2.2.2.1 b p n p1 n1 d1 out h0 h1
theorem GRr.pl1 (hX : GRr o B L X) {b p n : Int} {f : Int} (h0 : isw B L p 14836) (h1 : X 5 b (nx B L p) n dz (.inl f)) : X 5 b p n dz (.inl f) := hX.2.2.2.2.2.2.2.2.2.2.2.2.2.2.2.2.2.2.2.2.1 b p n f h0 h1
theorem GRr.pl2 (hX : GRr o B L X) {b p n : Int} {p1 n1 : Int} {d : Den} (h0 : isw B L p 14836) (h1 : X 5 b (nx B L p) n dz (.inr (p1, n1, d))) : X 5 b p n dz (.inr (p1, n1, dnot d)) := hX.2.2.2.2.2.2.2.2.2.2.2.2.2.2.2.2.2.2.2.2.2.1 b p n p1 n1 d h0 h1
theorem GRr.pl3 (hX : GRr o B L X) {b p n : Int} (h0 : isg B L p 40) (h1 : ¬ b < 8) : X 5 b p n dz (.inl p) := hX.2.2.2.2.2.2.2.2.2.2.2.2.2.2.2.2.2.2.2.2.2.2.1 b p n h0 h1
theorem GRr.pl4 (hX : GRr o B L X) {b p n : Int} {f : Int} (h0 : isg B L p 40) (h1 : b < 8) (h2 : X 9 (b + 1) (nx B L p) n dz (.inl f)) : X 5 b p n dz (.inl f) := hX.2.2.2.2.2.2.2.2.2.2.2.2.2.2.2.2.2.2.2.2.2.2.2.1 b p n f h0 h1 h2
theorem GRr.pl5 (hX : GRr o B L X) {b p n : Int} {p1 n1 : Int} {d : Den} (h0 : isg B L p 40) (h1 : b < 8) (h2 : X 9 (b + 1) (nx B L p) n dz (.inr (p1, n1, d))) (h3 : ¬ isg B L p1 41) : X 5 b p n dz (.inl p1) := hX.2.2.2.2.2.2.2.2.2.2.2.2.2.2.2.2.2.2.2.2.2.2.2.2.1 b p n p1 n1 d h0 h1 h2 h3
theorem GRr.pl6 (hX : GRr o B L X) {b p n : Int} {p1 n1 : Int} {d : Den} (h0 : isg B L p 40) (h1 : b < 8) (h2 : X 9 (b + 1) (nx B L p) n dz (.inr (p1, n1, d))) (h3 : isg B L p1 41) : X 5 b p n dz (.inr ((nx B L p1), n1, d)) := hX.2.2.2.2.2.2.2.2.2.2.2.2.2.2.2.2.2.2.2.2.2.2.2.2.2.1 b p n p1 n1 d h0 h1 h2 h3
theorem GRr.pl7 (hX : GRr o B L X) {b p n : Int} {f : Int} (h0 : ¬ isw B L p 14836) (h1 : ¬ isg B L p 40) (h2 : X 4 b p n dz (.inl f)) : X 5 b p n dz (.inl f) := hX.2.2.2.2.2.2.2.2.2.2.2.2.2.2.2.2.2.2.2.2.2.2.2.2.2.2.1 b p n f h0 h1 h2
theorem GRr.pl8 (hX : GRr o B L X) {b p n : Int} {p1 n1 : Int} {d : Den} (h0 : ¬ isw B L p 14836) (h1 : ¬ isg B L p 40) (h2 : X 4 b p n dz (.inr (p1, n1, d))) (h3 : ¬ isg B L p1 60) (h4 : ¬ isg B L p1 62) (h5 : ¬ isg B L p1 61) : X 5 b p n dz (.inl p1) := hX.2.2.2.2.2.2.2.2.2.2.2.2.2.2.2.2.2.2.2.2.2.2.2.2.2.2.2.1 b p n p1 n1 d h0 h1 h2 h3 h4 h5
theorem GRr.pl9 (hX : GRr o B L X) {b p n : Int} {dd p1 n1 f : Int} {d : Den} (h0 : ¬ isw B L p 14836) (h1 : ¬ isg B L p 40) (h2 : X 4 b p n dz (.inr (p1, n1, d))) (h3 : (isg B L p1 60 ∧ dd = 6) ∨ (isg B L p1 62 ∧ dd = 7) ∨ (isg B L p1 61 ∧ dd = 8)) (h4 : X 4 b (nx B L p1) n1 dz (.inl f)) : X 5 b p n dz (.inl f) := hX.2.2.2.2.2.2.2.2.2.2.2.2.2.2.2.2.2.2.2.2.2.2.2.2.2.2.2.2.1 b p n dd p1 n1 f d h0 h1 h2 h3 h4
theorem GRr.pl10 (hX : GRr o B L X) {b p n : Int} {dd p1 n1 p2 n2 : Int} {d d2 : Den} (h0 : ¬ isw B L p 14836) (h1 : ¬ isg B L p 40) (h2 : X 4 b p n dz (.inr (p1, n1, d))) (h3 : (isg B L p1 60 ∧ dd = 6) ∨ (isg B L p1 62 ∧ dd = 7) ∨ (isg B L p1 61 ∧ dd = 8)) (h4 : X 4 b (nx B L p1) n1 dz (.inr (p2, n2, d2))) : X 5 b p n dz (.inr (p2, n2, dbin dd d d2)) := hX.2.2.2.2.2.2.2.2.2.2.2.2.2.2.2.2.2.2.2.2.2.2.2.2.2.2.2.2.2.1 b p n dd p1 n1 p2 n2 d d2 h0 h1 h2 h3 h4
theorem GRr.bo1 (hX : GRr o B L X) {b p n : Int} {d : Den} (h0 : ¬ isw B L p 1476) : X 6 b p n d (.inr (p, n, d)) := hX.2.2.2.2.2.2.2.2.2.2.2.2.2.2.2.2.2.2.2.2.2.2.2.2.2.2.2.2.2.2.1 b p n d h0
theorem GRr.bo2 (hX : GRr o B L X) {b p n : Int} {f : Int} {d : Den} (h0 : isw B L p 1476) (h1 : X 5 b (nx B L p) n dz (.inl f)) : X 6 b p n d (.inl f) := hX.2.2.2.2.2.2.2.2.2.2.2.2.2.2.2.2.2.2.2.2.2.2.2.2.2.2.2.2.2.2.2.1 b p n f d h0 h1
theorem GRr.bo3 (hX : GRr o B L X) {b p n : Int} {p1 n1 : Int} {d d1 : Den} {out : Out} (h0 : isw B L p 1476) (h1 : X 5 b (nx B L p) n dz (.inr (p1, n1, d1))) (h2 : X 6 b p1 n1 (dor 11 d d1) out) : X 6 b p n d out := hX.2.2.2.2.2.2.2.2.2.2.2.2.2.2.2.2.2.2.2.2.2.2.2.2.2.2.2.2.2.2.2.2.1 b p n p1 n1 d d1 out h0 h1 h2
theorem GRr.bo4 (hX : GRr o B L X) {b p n : Int} {f : Int} (h0 : X 5 b p n dz (.inl f)) : X 7 b p n dz (.inl f) := hX.2.2.2.2.2.2.2.2.2.2.2.2.2.2.2.2.2.2.2.2.2.2.2.2.2.2.2.2.2.2.2.2.2.1 b p n f h0
theorem GRr.bo5 (hX : GRr o B L X) {b p n : Int} {p1 n1 : Int} {d1 : Den} {out : Out} (h0 : X 5 b p n dz (.inr (p1, n1, d1))) (h1 : X 6 b p1 n1 d1 out) : X 7 b p n dz out := hX.2.2.2.2.2.2.2.2.2.2.2.2.2.2.2.2.2.2.2.2.2.2.2.2.2.2.2.2.2.2.2.2.2.2.1 b p n p1 n1 d1 out h0 h1
theorem GRr.ts1 (hX : GRr o B L X) {b p n : Int} {d : Den} (h0 : ¬ isw B L p 498) : X 8 b p n d (.inr (p, n, d)) := hX.2.2.2.2.2.2.2.2.2.2.2.2.2.2.2.2.2.2.2.2.2.2.2.2.2.2.2.2.2.2.2.2.2.2.2.1 b p n d h0
theorem GRr.ts2 (hX : GRr o B L X) {b p n : Int} {f : Int} {d : Den} (h0 : isw B L p 498) (h1 : X 7 b (nx B L p) n dz (.inl f)) : X 8 b p n d (.inl f) := hX.2.2.2.2.2.2.2.2.2.2.2.2.2.2.2.2.2.2.2.2.2.2.2.2.2.2.2.2.2.2.2.2.2.2.2.2.1 b p n f d h0 h1
theorem GRr.ts3 (hX : GRr o B L X) {b p n : Int} {p1 n1 : Int} {d d1 : Den} {out : Out} (h0 : isw B L p 498) (h1 : X 7 b (nx B L p) n dz (.inr (p1, n1, d1))) (h2 : X 8 b p1 n1 (dor 10 d d1) out) : X 8 b p n d out := hX.2.2.2.2.2.2.2.2.2.2.2.2.2.2.2.2.2.2.2.2.2.2.2.2.2.2.2.2.2.2.2.2.2.2.2.2.2.1 b p n p1 n1 d d1 out h0 h1 h2
theorem GRr.ts4 (hX : GRr o B L X) {b p n : Int} {f : Int} (h0 : X 7 b p n dz (.inl f)) : X 9 b p n dz (.inl f) := hX.2.2.2.2.2.2.2.2.2.2.2.2.2.2.2.2.2.2.2.2.2.2.2.2.2.2.2.2.2.2.2.2.2.2.2.2.2.2.1 b p n f h0
theorem GRr.ts5 (hX : GRr o B L X) {b p n : Int} {p1 n1 : Int} {d1 : Den} {out : Out} (h0 : X 7 b p n dz (.inr (p1, n1, d1))) (h1 : X 8 b p1 n1 d1 out) : X 9 b p n dz out := hX.2.2.2.2.2.2.2.2.2.2.2.2.2.2.2.2.2.2.2.2.2.2.2.2.2.2.2.2.2.2.2.2.2.2.2.2.2.2.2 b p n p1 n1 d1 out h0 h1
end GRS
