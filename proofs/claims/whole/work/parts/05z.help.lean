theorem rs1 {α β : Type} {v : α} {S : β} {q : α × β} (h : some (v, S) = some q) : v = q.1 := by
  cases h
  rfl
theorem rs2 {α β : Type} {v : α} {S : β} {q : α × β} (h : some (v, S) = some q) : S = q.2 := by
  cases h
  rfl
theorem rt1 {α β : Type} {v : α} {S : β} {q : α × β} (h : (v, S) = q) : v = q.1 := by
  cases h
  rfl
theorem rt2 {α β : Type} {v : α} {S : β} {q : α × β} (h : (v, S) = q) : S = q.2 := by
  cases h
  rfl
