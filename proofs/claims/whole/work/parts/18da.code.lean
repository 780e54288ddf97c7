/-! for now: the parts 06b0 .. 06b7 of wip/whole/later prove it; they go ahead of 08 at the end -/
theorem kc_all (g : Nat) (h : g < 357) : chkM g = true := by
  sorry
