/-! ===== tables as lists ===== -/
def ij_look {α : Type} : List (Nat × α) → Nat → Option α
  | [], _ => none
  | q :: r, i => bif Nat.beq q.1 i then some q.2 else ij_look r i
theorem ij_look_mem {α : Type} {l : List (Nat × α)} {i : Nat} {x : α} (h : ij_look l i = some x) : (i, x) ∈ l := by
  induction l with
  | nil => cases h
  | cons q r ih =>
    unfold ij_look at h
    cases hq : Nat.beq q.1 i with
    | true =>
      rw [hq] at h
      have h : some q.2 = some x := h
      cases h
      rw [← ij_beq hq]
      exact List.mem_cons_self
    | false =>
      rw [hq] at h
      exact List.mem_cons_of_mem _ (ih h)
def ij_nth {α : Type} (d : α) : List α → Nat → α
  | [], _ => d
  | x :: _, 0 => x
  | _ :: r, n + 1 => ij_nth d r n
def ij_chk (b : ByteArray) (t : List (Nat × Instr × Nat)) : Bool := t.all (fun q => decide (decode b q.1 = .ok q.2) && ij_lok q.2.1 q.2.2)
theorem ij_chk_ok {b : ByteArray} {t : List (Nat × Instr × Nat)} (h : ij_chk b t = true) {pc : Nat} {x : Instr × Nat} (hx : ij_look t pc = some x) : decode b pc = .ok x ∧ ij_lok x.1 x.2 = true := by
  have h1 := List.all_eq_true.mp h _ (ij_look_mem hx)
  simp only [Bool.and_eq_true, decide_eq_true_eq] at h1
  exact h1
