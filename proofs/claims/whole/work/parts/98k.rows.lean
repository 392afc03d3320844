/-! ===== closed boards: rows ===== -/
/-- rows by which twice is back, the least first -/
def cb_T : Nat → List (List Nat)
  | 1 => [[0]]
  | 2 => [[0, 1], [1, 0]]
  | 3 => [[0, 1, 2], [0, 2, 1], [1, 0, 2], [2, 1, 0]]
  | 4 => [[0, 1, 2, 3], [0, 1, 3, 2], [0, 2, 1, 3], [0, 3, 2, 1], [1, 0, 2, 3], [1, 0, 3, 2], [2, 1, 0, 3], [2, 3, 0, 1], [3, 1, 2, 0], [3, 2, 1, 0]]
  | 5 => [[0, 1, 2, 3, 4], [0, 1, 2, 4, 3], [0, 1, 3, 2, 4], [0, 1, 4, 3, 2], [0, 2, 1, 3, 4], [0, 2, 1, 4, 3], [0, 3, 2, 1, 4], [0, 3, 4, 1, 2], [0, 4, 2, 3, 1], [0, 4, 3, 2, 1], [1, 0, 2, 3, 4], [1, 0, 2, 4, 3], [1, 0, 3, 2, 4], [1, 0, 4, 3, 2], [2, 1, 0, 3, 4], [2, 1, 0, 4, 3], [2, 3, 0, 1, 4], [2, 4, 0, 3, 1], [3, 1, 2, 0, 4], [3, 1, 4, 0, 2], [3, 2, 1, 0, 4], [3, 4, 2, 0, 1], [4, 1, 2, 3, 0], [4, 1, 3, 2, 0], [4, 2, 1, 3, 0], [4, 3, 2, 1, 0]]
  | 6 => [[0, 1, 2, 3, 4, 5], [0, 1, 2, 3, 5, 4], [0, 1, 2, 4, 3, 5], [0, 1, 2, 5, 4, 3], [0, 1, 3, 2, 4, 5], [0, 1, 3, 2, 5, 4], [0, 1, 4, 3, 2, 5], [0, 1, 4, 5, 2, 3], [0, 1, 5, 3, 4, 2], [0, 1, 5, 4, 3, 2], [0, 2, 1, 3, 4, 5], [0, 2, 1, 3, 5, 4], [0, 2, 1, 4, 3, 5], [0, 2, 1, 5, 4, 3], [0, 3, 2, 1, 4, 5], [0, 3, 2, 1, 5, 4], [0, 3, 4, 1, 2, 5], [0, 3, 5, 1, 4, 2], [0, 4, 2, 3, 1, 5], [0, 4, 2, 5, 1, 3], [0, 4, 3, 2, 1, 5], [0, 4, 5, 3, 1, 2], [0, 5, 2, 3, 4, 1], [0, 5, 2, 4, 3, 1], [0, 5, 3, 2, 4, 1], [0, 5, 4, 3, 2, 1], [1, 0, 2, 3, 4, 5], [1, 0, 2, 3, 5, 4], [1, 0, 2, 4, 3, 5], [1, 0, 2, 5, 4, 3], [1, 0, 3, 2, 4, 5], [1, 0, 3, 2, 5, 4], [1, 0, 4, 3, 2, 5], [1, 0, 4, 5, 2, 3], [1, 0, 5, 3, 4, 2], [1, 0, 5, 4, 3, 2], [2, 1, 0, 3, 4, 5], [2, 1, 0, 3, 5, 4], [2, 1, 0, 4, 3, 5], [2, 1, 0, 5, 4, 3], [2, 3, 0, 1, 4, 5], [2, 3, 0, 1, 5, 4], [2, 4, 0, 3, 1, 5], [2, 4, 0, 5, 1, 3], [2, 5, 0, 3, 4, 1], [2, 5, 0, 4, 3, 1], [3, 1, 2, 0, 4, 5], [3, 1, 2, 0, 5, 4], [3, 1, 4, 0, 2, 5], [3, 1, 5, 0, 4, 2], [3, 2, 1, 0, 4, 5], [3, 2, 1, 0, 5, 4], [3, 4, 2, 0, 1, 5], [3, 4, 5, 0, 1, 2], [3, 5, 2, 0, 4, 1], [3, 5, 4, 0, 2, 1], [4, 1, 2, 3, 0, 5], [4, 1, 2, 5, 0, 3], [4, 1, 3, 2, 0, 5], [4, 1, 5, 3, 0, 2], [4, 2, 1, 3, 0, 5], [4, 2, 1, 5, 0, 3], [4, 3, 2, 1, 0, 5], [4, 3, 5, 1, 0, 2], [4, 5, 2, 3, 0, 1], [4, 5, 3, 2, 0, 1], [5, 1, 2, 3, 4, 0], [5, 1, 2, 4, 3, 0], [5, 1, 3, 2, 4, 0], [5, 1, 4, 3, 2, 0], [5, 2, 1, 3, 4, 0], [5, 2, 1, 4, 3, 0], [5, 3, 2, 1, 4, 0], [5, 3, 4, 1, 2, 0], [5, 4, 2, 3, 1, 0], [5, 4, 3, 2, 1, 0]]
  | _ => []
def cb_q (n : Nat) : Nat := (cb_T n).length
def cb_r (n i x : Nat) : Nat := ((cb_T n).getD i []).getD x 0
/-- the next word, its least figure first -/
def cb_inc (n : Nat) : List Nat → Option (List Nat)
  | [] => none
  | d :: ds => if d + 1 = n then (cb_inc n ds).map (fun l => 0 :: l) else some ((d + 1) :: ds)
def cb_pv (n : Nat) (w : List Nat) (x : Nat) : Nat := w.getD (n - 1 - x) 0
def cb_is (n : Nat) (w : List Nat) : Bool := (List.range n).all (fun x => cb_pv n w (cb_pv n w x) == x)
def cb_run (n : Nat) : Nat → List Nat → List (List Nat)
  | 0, _ => []
  | f + 1, w => (if cb_is n w then [w.reverse] else []) ++ (match cb_inc n w with | none => [] | some w' => cb_run n f w')
def cb_end (n : Nat) : Nat → List Nat → Bool
  | 0, _ => false
  | f + 1, w => match cb_inc n w with | none => true | some w' => cb_end n f w'
set_option maxRecDepth 100000 in
theorem cb_run1 : cb_run 1 1 [0] = cb_T 1 ∧ cb_end 1 1 [0] = true := by decide +kernel
set_option maxRecDepth 100000 in
theorem cb_run2 : cb_run 2 4 [0, 0] = cb_T 2 ∧ cb_end 2 4 [0, 0] = true := by decide +kernel
set_option maxRecDepth 100000 in
theorem cb_run3 : cb_run 3 27 [0, 0, 0] = cb_T 3 ∧ cb_end 3 27 [0, 0, 0] = true := by decide +kernel
set_option maxRecDepth 100000 in
theorem cb_run4 : cb_run 4 256 [0, 0, 0, 0] = cb_T 4 ∧ cb_end 4 256 [0, 0, 0, 0] = true := by decide +kernel
set_option maxRecDepth 100000 in
theorem cb_run5 : cb_run 5 3125 [0, 0, 0, 0, 0] = cb_T 5 ∧ cb_end 5 3125 [0, 0, 0, 0, 0] = true := by decide +kernel
set_option maxRecDepth 100000 in
theorem cb_run6 : cb_run 6 46656 [0, 0, 0, 0, 0, 0] = cb_T 6 ∧ cb_end 6 46656 [0, 0, 0, 0, 0, 0] = true := by decide +kernel
theorem cb_runs {n : Nat} (h1 : 1 ≤ n) (h6 : n ≤ 6) : ∃ f, cb_run n f (List.replicate n 0) = cb_T n ∧ cb_end n f (List.replicate n 0) = true := by
  rcases (show n = 1 ∨ n = 2 ∨ n = 3 ∨ n = 4 ∨ n = 5 ∨ n = 6 by omega) with rfl | rfl | rfl | rfl | rfl | rfl
  · exact ⟨_, cb_run1⟩
  · exact ⟨_, cb_run2⟩
  · exact ⟨_, cb_run3⟩
  · exact ⟨_, cb_run4⟩
  · exact ⟨_, cb_run5⟩
  · exact ⟨_, cb_run6⟩
/-- what holds of all rows -/
def cb_good (n : Nat) : Bool := (cb_T n).all (fun w => w.length == n && (List.range n).all (fun x => w.getD x 0 < n && w.getD (w.getD x 0) 0 == x))
theorem cb_goods : ∀ n, n < 7 → cb_good n = true := by decide +kernel
theorem cb_qs : ∀ n, n < 7 → cb_q n ≤ 76 := by decide +kernel
theorem cb_getD {α : Type} (l : List α) (d : α) {i : Nat} (h : i < l.length) : l.getD i d = l[i] := by
  rw [List.getD_eq_getElem?_getD, List.getElem?_eq_getElem h]
  rfl
theorem cb_mem {n i : Nat} (hi : i < cb_q n) : (cb_T n).getD i [] ∈ cb_T n := by
  rw [cb_getD _ _ hi]
  exact List.getElem_mem hi
theorem cb_r_all {n i x : Nat} (hn : n < 7) (hi : i < cb_q n) (hx : x < n) : cb_r n i x < n ∧ cb_r n i (cb_r n i x) = x := by
  have h := cb_goods n hn
  unfold cb_good at h
  have h2 := List.all_eq_true.mp h _ (cb_mem hi)
  rw [Bool.and_eq_true] at h2
  have h3 := List.all_eq_true.mp h2.2 x (List.mem_range.mpr hx)
  rw [Bool.and_eq_true] at h3
  exact ⟨of_decide_eq_true h3.1, beq_iff_eq.mp h3.2⟩
