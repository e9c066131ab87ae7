def md_cb (c : Nat) : Bool := c == 3 || c == 74
theorem cnt_b {c : Nat} (h : md_cb c = true) : isCnt c := by
  simpa [md_cb, isCnt] using h
