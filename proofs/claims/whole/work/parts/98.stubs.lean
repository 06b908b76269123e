theorem st_estuary : St_estuary RR := sorry
theorem st_walk : St_walk RR := sorry
theorem st_byTurns : St_byTurns RR := sorry
