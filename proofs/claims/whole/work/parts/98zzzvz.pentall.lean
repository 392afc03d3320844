/-! ===== five sides, the last corner without a label: all boards (2) ===== -/
theorem cp5_all : ∀ x, x < 6561 → atc 5 (9 * x) at5c = true := fun x hx => by
  have b := cp5 (x / 27 / 27) (by omega) (x / 27 % 27) (by omega)
  rw [show 27 * (x / 27 / 27) + x / 27 % 27 = x / 27 by omega] at b
  have b' : allB (fun k => atc 5 (Nat.mul 9 (Nat.add (Nat.mul 27 (x / 27)) k)) at5c) 27 = true := b
  have c := allB_t b' (x % 27) (by omega)
  have c' : atc 5 (9 * (27 * (x / 27) + x % 27)) at5c = true := c
  rw [show 27 * (x / 27) + x % 27 = x by omega] at c'
  exact c'
