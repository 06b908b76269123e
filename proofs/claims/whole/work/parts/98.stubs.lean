theorem st_estuary : St_estuary RR := sorry
theorem st_walk : St_walk RR := sorry
