/-! PLAIN QUESTIONS: both sides answer alike -/
theorem j_looks {T : List Shp} {c : Cm} {n : Nat} {x y w : Int} (h : REL T c n) : JN T c n 130 257 [vI x, vI y, vI w] := by
  obtain ⟨F, hc, hr⟩ := h.worlds
  refine jq (L1 := [14, 15, 16, 17]) (L2 := [92, 94]) (G := [0, 30, 34, 35, 36]) h (c_looks hc) (fun c1 e o => ?_) rfl rfl rfl rfl rfl
  have k := r_looks (T := T) (x := x) (y := y) (w := w) (hr.off o rfl)
  rw [e] at k
  exact k
theorem j_asks {T : List Shp} {c : Cm} {n : Nat} {p y w : Int} (h : REL T c n) : JN T c n 131 258 [vI p, vI y, vI w] := by
  obtain ⟨F, hc, hr⟩ := h.worlds
  refine jq (L1 := [14, 15, 16, 17]) (L2 := [92, 94]) (G := [0, 30, 34, 35, 36]) h (c_asks hc) (fun c1 e o => ?_) rfl rfl rfl rfl rfl
  have k := r_asks (T := T) (p := p) (y := y) (w := w) (hr.off o rfl)
  rw [e] at k
  exact k
theorem j_tone {T : List Shp} {c : Cm} {n : Nat} {l x : Int} (h : REL T c n) : JN T c n 134 269 [vI l, vI x] := by
  obtain ⟨F, hc, hr⟩ := h.worlds
  refine jq (L1 := []) (L2 := []) (G := [0]) h (QI.of_eq (c_tone hc.1 hc.2.1) ⟨rfl, Off.rfl⟩) (fun c1 e o => ?_) rfl rfl rfl rfl rfl
  have k := r_tone (T := T) (l := l) (x := x) (hr.off o rfl)
  rw [e] at k
  exact QI.of_eq k ⟨rfl, Off.rfl.wr rfl⟩
theorem j_layer {T : List Shp} {c : Cm} {n : Nat} {l w : Int} (h : REL T c n) : JN T c n 135 272 [vI l, vI w] := by
  obtain ⟨F, hc, hr⟩ := h.worlds
  refine jq (L1 := [14, 15, 16, 17]) (L2 := [92, 94, 95, 96]) (G := [0, 30, 34, 35, 36]) h (c_layer hc) (fun c1 e o => ?_) rfl rfl rfl rfl rfl
  have k := r_layer (T := T) (l := l) (w := w) (hr.off o rfl)
  rw [e] at k
  exact k
theorem j_unlawful {T : List Shp} {c : Cm} {n : Nat} (h : REL T c n) : JN T c n 136 273 [] := by
  obtain ⟨F, hc, hr⟩ := h.worlds
  refine jq (L1 := [14, 15, 16, 17]) (L2 := [92, 94, 95, 96]) (G := [0, 30, 34, 35, 36]) h (c_unlawful hc) (fun c1 e o => ?_) rfl rfl rfl rfl rfl
  have k := r_unlawful (T := T)  (hr.off o rfl)
  rw [e] at k
  exact k
theorem j_money {T : List Shp} {c : Cm} {n : Nat} {l : Int} (h : REL T c n) : JN T c n 137 275 [vI l] := by
  obtain ⟨F, hc, hr⟩ := h.worlds
  refine jq (L1 := [14, 15, 16, 17]) (L2 := [92, 94]) (G := [0, 30, 34, 35, 36]) h (c_money hc) (fun c1 e o => ?_) rfl rfl rfl rfl rfl
  have k := r_money (T := T) (l := l) (hr.off o rfl)
  rw [e] at k
  exact k
theorem j_broke {T : List Shp} {c : Cm} {n : Nat} (h : REL T c n) : JN T c n 138 276 [] := by
  obtain ⟨F, hc, hr⟩ := h.worlds
  refine jq (L1 := [14, 15, 16, 17]) (L2 := [92, 94]) (G := [0, 30, 34, 35, 36]) h (c_broke hc) (fun c1 e o => ?_) rfl rfl rfl rfl rfl
  have k := r_broke (T := T)  (hr.off o rfl)
  rw [e] at k
  exact k
theorem j_drift {T : List Shp} {c : Cm} {n : Nat} {x m w : Int} (h : REL T c n) : JN T c n 140 282 [vI x, vI m, vI w] := by
  obtain ⟨F, hc, hr⟩ := h.worlds
  refine jq (L1 := [14, 15, 16, 17]) (L2 := [92, 94, 95, 96]) (G := [0, 30, 34, 35, 36]) h (c_drift hc) (fun c1 e o => ?_) rfl rfl rfl rfl rfl
  have k := r_drift (T := T) (x := x) (n := m) (w := w) (hr.off o rfl)
  rw [e] at k
  exact k
theorem j_undoing {T : List Shp} {c : Cm} {n : Nat} {i : Int} (h : REL T c n) : JN T c n 141 283 [vI i] := by
  obtain ⟨F, hc, hr⟩ := h.worlds
  refine jq (L1 := [14, 15, 16, 17, 19, 20]) (L2 := [92, 94, 95, 96]) (G := [0, 30, 34, 35, 36]) h (c_undoing hc) (fun c1 e o => ?_) rfl rfl rfl rfl rfl
  have k := r_undoing (T := T) (i := i) (hr.off o rfl)
  rw [e] at k
  exact k
theorem j_near {T : List Shp} {c : Cm} {n : Nat} {q : Int} (h : REL T c n) : JN T c n 145 291 [vI q] := by
  obtain ⟨F, hc, hr⟩ := h.worlds
  refine jq (L1 := []) (L2 := []) (G := [0]) h (QI.of_eq (c_near hc.1 hc.2.1) ⟨rfl, Off.rfl⟩) (fun c1 e o => ?_) rfl rfl rfl rfl rfl
  have k := r_near (T := T) (q := q) (hr.off o rfl)
  rw [e] at k
  exact QI.of_eq k ⟨rfl, Off.rfl.wr rfl⟩
theorem j_like {T : List Shp} {c : Cm} {n : Nat} {a b : Int} (h : REL T c n) : JN T c n 146 293 [vI a, vI b] := by
  obtain ⟨F, hc, hr⟩ := h.worlds
  refine jq (L1 := []) (L2 := []) (G := [0]) h (QI.of_eq (c_like hc.1 hc.2.1) ⟨rfl, Off.rfl⟩) (fun c1 e o => ?_) rfl rfl rfl rfl rfl
  have k := r_like (T := T) (a := a) (b := b) (hr.off o rfl)
  rw [e] at k
  exact QI.of_eq k ⟨rfl, Off.rfl.wr rfl⟩
theorem j_tree {T : List Shp} {c : Cm} {n : Nat} {w : Int} (h : REL T c n) : JN T c n 147 296 [vI w] := by
  obtain ⟨F, hc, hr⟩ := h.worlds
  refine jq (L1 := [49, 50, 51, 52, 53]) (L2 := [102, 103]) (G := [0, 49, 50]) h (c_tree hc.1 hc.2.1) (fun c1 e o => ?_) rfl rfl rfl rfl rfl
  have k := r_tree (T := T) (w := w) (hr.off o rfl)
  rw [e] at k
  exact k
theorem j_trees {T : List Shp} {c : Cm} {n : Nat} (h : REL T c n) : JN T c n 148 297 [] := by
  obtain ⟨F, hc, hr⟩ := h.worlds
  refine jq (L1 := [49, 50, 51, 52]) (L2 := [102, 103]) (G := [0, 49, 50]) h (c_trees hc.1 hc.2.1) (fun c1 e o => ?_) rfl rfl rfl rfl rfl
  have k := r_trees (T := T)  (hr.off o rfl)
  rw [e] at k
  exact k
theorem j_dated {T : List Shp} {c : Cm} {n : Nat} {q w : Int} (h : REL T c n) : JN T c n 149 298 [vI q, vI w] := by
  obtain ⟨F, hc, hr⟩ := h.worlds
  refine jq (L1 := []) (L2 := []) (G := [0]) h (QI.of_eq (c_dated hc.1 hc.2.1) ⟨rfl, Off.rfl⟩) (fun c1 e o => ?_) rfl rfl rfl rfl rfl
  have k := r_dated (T := T) (q := q) (w := w) (hr.off o rfl)
  rw [e] at k
  exact QI.of_eq k ⟨rfl, Off.rfl.wr rfl⟩
theorem j_know {T : List Shp} {c : Cm} {n : Nat} {w : Int} (h : REL T c n) : JN T c n 150 301 [vI w] := by
  obtain ⟨F, hc, hr⟩ := h.worlds
  refine jq (L1 := [49, 54]) (L2 := [104]) (G := [0]) h (c_know hc.1 hc.2.1) (fun c1 e o => ?_) rfl rfl rfl rfl rfl
  have k := r_know (T := T) (w := w) (hr.off o rfl)
  rw [e] at k
  exact k
theorem j_who {T : List Shp} {c : Cm} {n : Nat} {l : Int} (h : REL T c n) : JN T c n 151 303 [vI l] := by
  obtain ⟨F, hc, hr⟩ := h.worlds
  refine jq (L1 := [14, 15, 16, 17, 19]) (L2 := [92, 94, 95, 96]) (G := [0, 30, 34, 35, 36]) h (c_who hc) (fun c1 e o => ?_) rfl rfl rfl rfl rfl
  have k := r_who (T := T) (l := l) (hr.off o rfl)
  rw [e] at k
  exact k
theorem j_skipped {T : List Shp} {c : Cm} {n : Nat} (h : REL T c n) : JN T c n 153 305 [] := by
  obtain ⟨F, hc, hr⟩ := h.worlds
  refine jq (L1 := [14, 15, 16, 17, 19]) (L2 := [92, 94, 95, 96]) (G := [0, 30, 34, 35, 36]) h (c_skipped hc) (fun c1 e o => ?_) rfl rfl rfl rfl rfl
  have k := r_skipped (T := T)  (hr.off o rfl)
  rw [e] at k
  exact k
theorem j_missing {T : List Shp} {c : Cm} {n : Nat} {l y : Int} (h : REL T c n) : JN T c n 154 306 [vI l, vI y] := by
  obtain ⟨F, hc, hr⟩ := h.worlds
  refine jq (L1 := [14, 15, 16, 17, 19]) (L2 := [92, 94, 95, 96]) (G := [0, 30, 34, 35, 36]) h (c_missing hc) (fun c1 e o => ?_) rfl rfl rfl rfl rfl
  have k := r_missq (T := T) (l := l) (y := y) (hr.off o rfl)
  rw [e] at k
  exact k
theorem j_was {T : List Shp} {c : Cm} {n : Nat} {x : Int} (h : REL T c n) : JN T c n 155 309 [vI x] := by
  obtain ⟨F, hc, hr⟩ := h.worlds
  refine jq (L1 := [14, 15, 16, 17]) (L2 := [92, 94, 95]) (G := [0, 30, 34, 35, 36]) h (c_was hc) (fun c1 e o => ?_) rfl rfl rfl rfl rfl
  have k := r_was (T := T) (x := x) (hr.off o rfl)
  rw [e] at k
  exact k
theorem j_ways {T : List Shp} {c : Cm} {n : Nat} (h : REL T c n) : JL T c n 156 310 [] := by
  obtain ⟨F, hc, hr⟩ := h.worlds
  refine jql (L1 := [14, 15, 16, 17]) (L2 := [92, 94, 95]) (G := [0, 30, 34, 35, 36]) h (c_ways hc) (fun c1 e o => ?_) rfl rfl rfl rfl rfl
  have k := r_ways (T := T)  (hr.off o rfl)
  rw [e] at k
  exact k
theorem j_born {T : List Shp} {c : Cm} {n : Nat} {q w : Int} (h : REL T c n) : JN T c n 159 314 [vI q, vI w] := by
  obtain ⟨F, hc, hr⟩ := h.worlds
  refine jq (L1 := []) (L2 := []) (G := [0]) h (QI.of_eq (c_born hc.1 hc.2.1) ⟨rfl, Off.rfl⟩) (fun c1 e o => ?_) rfl rfl rfl rfl rfl
  have k := r_born (T := T) (q := q) (w := w) (hr.off o rfl)
  rw [e] at k
  exact QI.of_eq k ⟨rfl, Off.rfl.wr rfl⟩
theorem j_stands {T : List Shp} {c : Cm} {n : Nat} {q y w : Int} (h : REL T c n) : JN T c n 160 320 [vI q, vI y, vI w] := by
  obtain ⟨F, hc, hr⟩ := h.worlds
  refine jq (L1 := [14, 15, 16, 17]) (L2 := [92, 94]) (G := [0, 30, 34, 35, 36]) h (c_stands hc) (fun c1 e o => ?_) rfl rfl rfl rfl rfl
  have k := r_stands (T := T) (q := q) (y := y) (w := w) (hr.off o rfl)
  rw [e] at k
  exact k
theorem j_ruler {T : List Shp} {c : Cm} {n : Nat} {y : Int} (h : REL T c n) : JN T c n 161 322 [vI y] := by
  obtain ⟨F, hc, hr⟩ := h.worlds
  refine jq (L1 := [14, 15, 16, 17, 55, 56, 57, 58]) (L2 := [92, 94, 105]) (G := [0, 30, 34, 35, 36]) h (c_ruler hc) (fun c1 e o => ?_) rfl rfl rfl rfl rfl
  have k := r_ruler (T := T) (y := y) (hr.off o rfl)
  rw [e] at k
  exact k
theorem j_reign {T : List Shp} {c : Cm} {n : Nat} {i w : Int} (h : REL T c n) : JN T c n 162 323 [vI i, vI w] := by
  obtain ⟨F, hc, hr⟩ := h.worlds
  refine jq (L1 := [14, 15, 16, 17, 55, 56, 57, 58]) (L2 := [92, 94, 105]) (G := [0, 30, 34, 35, 36]) h (c_reign hc) (fun c1 e o => ?_) rfl rfl rfl rfl rfl
  have k := r_reign (T := T) (i := i) (w := w) (hr.off o rfl)
  rw [e] at k
  exact k
theorem j_vacant {T : List Shp} {c : Cm} {n : Nat} (h : REL T c n) : JN T c n 163 324 [] := by
  obtain ⟨F, hc, hr⟩ := h.worlds
  refine jq (L1 := [14, 15, 16, 17, 55, 56, 57, 58]) (L2 := [92, 94, 105]) (G := [0, 30, 34, 35, 36]) h (c_vacant hc) (fun c1 e o => ?_) rfl rfl rfl rfl rfl
  have k := r_vacant (T := T)  (hr.off o rfl)
  rw [e] at k
  exact k
theorem j_line {T : List Shp} {c : Cm} {n : Nat} {y i : Int} (h : REL T c n) : JN T c n 164 325 [vI y, vI i] := by
  obtain ⟨F, hc, hr⟩ := h.worlds
  refine jq (L1 := [14, 15, 16, 17, 55, 56, 57, 58]) (L2 := [92, 94, 106]) (G := [0, 30, 34, 35, 36]) h (c_line hc) (fun c1 e o => ?_) rfl rfl rfl rfl rfl
  have k := r_line (T := T) (y := y) (i := i) (hr.off o rfl)
  rw [e] at k
  exact k
