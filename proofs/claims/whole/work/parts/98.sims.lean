def RelW : Mem → Mem → Prop := fun _ _ => True
theorem sims_ok : Sims RelW := sorry
theorem rel_0 : RelW σX0 τM0 := trivial
