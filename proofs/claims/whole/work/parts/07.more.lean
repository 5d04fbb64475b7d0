theorem filt_in {α : Type} {f : α → Bool} {l : List α} {e : α} (h : f e = true) : (l ++ [e]).filter f = l.filter f ++ [e] := by simp [h]
theorem filt_out {α : Type} {f : α → Bool} {l : List α} {e : α} (h : f e = false) : (l ++ [e]).filter f = l.filter f := by simp [h]
