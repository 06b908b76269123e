theorem st_estuary : St_estuary RR := sorry
