/-! ===== closed boards: all rows are there, each once ===== -/
def cb_allw (n : Nat) : Nat → (List Nat → Bool) → Bool
  | 0, P => P []
  | r + 1, P => (List.range n).all (fun e => cb_allw n r (fun l => P (e :: l)))
theorem cb_allw_of {n : Nat} : ∀ (r : Nat) (P : List Nat → Bool), cb_allw n r P = true → ∀ l : List Nat, l.length = r → (∀ e, e ∈ l → e < n) → P l = true := by
  intro r
  induction r with
  | zero =>
    intro P h l hl _
    rw [List.length_eq_zero_iff.mp hl]
    exact h
  | succ r ih =>
    intro P h l hl hd
    cases l with
    | nil => exact absurd hl (by simp)
    | cons e l =>
      have h1 := List.all_eq_true.mp h e (List.mem_range.mpr (hd e (List.mem_cons_self ..)))
      exact ih _ h1 l (by simpa using hl) (fun x hx => hd x (List.mem_cons_of_mem _ hx))
def cb_iv (n : Nat) (l : List Nat) : Bool := (List.range n).all (fun x => l.getD (l.getD x 0) 0 == x)
set_option maxRecDepth 100000 in
theorem cb_full6 : ∀ n, n < 7 → 1 ≤ n → cb_allw n n (fun l => !(cb_iv n l) || (cb_T n).contains l) = true := by decide +kernel
set_option maxRecDepth 100000 in
theorem cb_nodup6 : ∀ n, n < 7 → (cb_T n).Nodup := by decide +kernel
