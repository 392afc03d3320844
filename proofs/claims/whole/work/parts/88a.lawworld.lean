/-! ===== the law's world: the class at 0 .. 45, the reference at 46 .. 87, the answer's row at 88 ===== -/
def lk_K : ij_Ks := xk_K ++ (rk_K ++ [.inr (1, 1)])
def lk_S (b : Bool) (I : Nat → Nat → Int32) (J : Nat → Nat → Int64) (I2 : Nat → Nat → Int32) (J2 : Nat → Nat → Int64) (o : Int64) : ij_S :=
  (fun p k => if p < 46 then xk_R b p k else if p < 88 then 46 + rk_R (p - 46) k else 0, fun p k => if p < 46 then I p k else if p < 88 then I2 (p - 46) k else 0, fun p k => if p < 46 then J p k else if p < 88 then J2 (p - 46) k else if p = 88 then (if k = 0 then o else 0) else 0)
theorem lk_kx : ∀ (p ci : Nat), xk_K[p]? = some (.inl ci) → ci < 11 := by
  intro p ci h
  have h1 : xk_K.all (fun x => match x with
    | .inl c => Nat.blt c 11
    | .inr _ => true) = true := by decide +kernel
  exact Nat.le_of_ble_eq_true (List.all_eq_true.mp h1 _ (List.mem_of_getElem? h))
theorem lk_kdx {c : Nat} (h : c < 11) : lk_kd c = false := by
  have : ∀ c, c < 11 → lk_kd c = false := by decide
  exact this c h
theorem lk_nfx {c : Nat} (h : c < 11) : lk_nf c = xk_nf c := by
  unfold lk_nf
  rw [lk_kdx h]
  rfl
theorem lk_ftx {c : Nat} (h : c < 11) (k : Nat) : ij_ft lk_P c k = ij_ft xk_P c k := by
  show lk_ft c k = _
  unfold lk_ft
  rw [lk_kdx h]
  rfl
theorem lk_ftr {k : Nat} (h : k < 72) : ij_ft rk_P 11 k = ij_ft lk_P 11 k := Nat.eq_of_beq_eq_true (List.all_eq_true.mp rk_ftc k (List.mem_range.mpr h))
section LKW
variable {b b' : Bool} {I I' : Nat → Nat → Int32} {J J' : Nat → Nat → Int64} {I2 I2' : Nat → Nat → Int32} {J2 J2' : Nat → Nat → Int64} {o : Int64} {X : ij_R} {d : Nat}
theorem lk_relx : ie_rel 0 xk_P lk_P xk_nf lk_nf xk_K lk_K (xk_R b, I, J) (lk_S b I J I2 J2 o) := by
  refine ⟨fun p k h => ?_, fun p ci h => ⟨(lk_nfx (lk_kx p ci h)).symm, fun k hk => ⟨(lk_ftx (lk_kx p ci h) k).symm, fun _ => ?_⟩⟩, fun p hp k => ?_⟩
  · rw [Nat.zero_add]
    unfold lk_K
    rw [List.getElem?_append_left (List.getElem?_eq_some_iff.mp h).1]
    exact h
  · have hp : p < 46 := (List.getElem?_eq_some_iff.mp h).1
    rw [Nat.zero_add, Nat.zero_add]
    exact if_pos hp
  · have hp : p < 46 := hp
    rw [Nat.zero_add]
    exact ⟨if_pos hp, if_pos hp⟩
theorem lk_relr : ie_rel 46 rk_P lk_P rk_nf lk_nf rk_K lk_K (rk_R, I2, J2) (lk_S b I J I2 J2 o) := by
  have hp46 : ∀ p, p < 42 → ¬ 46 + p < 46 ∧ 46 + p < 88 ∧ 46 + p - 46 = p := fun p h => by omega
  refine ⟨fun p k h => ?_, fun p ci h => ?_, fun p hp k => ?_⟩
  · unfold lk_K
    have hl : xk_K.length = 46 := rfl
    rw [List.getElem?_append_right (by omega), show 46 + p - xk_K.length = p by omega, List.getElem?_append_left (List.getElem?_eq_some_iff.mp h).1]
    exact h
  · obtain rfl := rk_K11 p ci h
    refine ⟨rfl, fun k hk => ⟨lk_ftr hk, fun _ => ?_⟩⟩
    have hp : p < 42 := (List.getElem?_eq_some_iff.mp h).1
    obtain ⟨h1, h2, h3⟩ := hp46 p hp
    show (if 46 + p < 46 then _ else if 46 + p < 88 then 46 + rk_R (46 + p - 46) k else 0) = 46 + rk_R p k
    rw [if_neg h1, if_pos h2, h3]
  · have hp : p < 42 := hp
    obtain ⟨h1, h2, h3⟩ := hp46 p hp
    constructor
    · show (if 46 + p < 46 then _ else if 46 + p < 88 then I2 (46 + p - 46) k else 0) = I2 p k
      rw [if_neg h1, if_pos h2, h3]
    · show (if 46 + p < 46 then _ else if 46 + p < 88 then J2 (46 + p - 46) k else _) = J2 p k
      rw [if_neg h1, if_pos h2, h3]
theorem lk_putx : ie_put 0 xk_K.length (lk_S b I J I2 J2 o) (xk_R b', I', J') = lk_S b' I' J' I2 J2 o := by
  have hl : xk_K.length = 46 := rfl
  rw [hl]
  unfold ie_put lk_S
  refine Prod.ext ?_ (Prod.ext ?_ ?_) <;> funext p k <;> by_cases hp : p < 46
  · simp [hp]
  · simp [hp]
  · simp [hp]
  · simp [hp]
  · simp [hp]
  · simp [hp]
theorem lk_putr : ie_put 46 rk_K.length (lk_S b I J I2 J2 o) (rk_R, I2', J2') = lk_S b I J I2' J2' o := by
  have hl : rk_K.length = 42 := rfl
  rw [hl]
  unfold ie_put lk_S
  refine Prod.ext ?_ (Prod.ext ?_ ?_) <;> funext p k <;> by_cases hp : p < 46 <;> by_cases hq : p < 88
  all_goals
    have e1 : (46 ≤ p ∧ p < 46 + 42) ↔ (¬ p < 46 ∧ p < 88) := by omega
    simp [e1, hp, hq]
    try (intro h9; omega)
/-- a call of the class that throws nothing, in the law's world -/
theorem lk_c1x {j : Nat} {as : List Value} {v : Option Value} (hj : j < 152) (h : ik_cr xk_P xk_M xk_Y xk_K X d j as (xk_R b, I, J) v (xk_R b', I', J')) : lk_C1 X d lk_K j (as.map (ie_v 0)) (lk_S b I J I2 J2 o) (v.map (ie_v 0)) (lk_S b' I' J' I2 J2 o) :=
  Or.inl ⟨j, as, v, (xk_R b, I, J), (xk_R b', I', J'), hj, (Nat.zero_add j).symm, rfl, rfl, lk_putx.symm, lk_relx, xk_Rw _ _ _, xk_Rw _ _ _, h⟩
/-- a call of the reference, in the law's world -/
theorem lk_c1r {j : Nat} {as : List Value} {v : Option Value} (hj : j < 75) (h : ij_cr rk_P rk_M rk_K (fun _ _ _ _ _ => False) d j as (rk_R, I2, J2) v (rk_R, I2', J2')) : lk_C1 X d lk_K (163 + j) (as.map (ie_v 46)) (lk_S b I J I2 J2 o) (v.map (ie_v 46)) (lk_S b I J I2' J2' o) :=
  Or.inr ⟨j, as, v, (rk_R, I2, J2), (rk_R, I2', J2'), hj, rfl, rfl, rfl, lk_putr.symm, lk_relr, rk_Rw _ _, rk_Rw _ _, h⟩
/-- a call of the class that may throw, in the law's world -/
theorem lk_c2x {j : Nat} {as : List Value} {v : ix_O} (hj : j < 152) (h : ix_cr xk_P xk_M xk_K xk_T (ik_cr xk_P xk_M xk_Y xk_K X) (fun _ _ _ _ _ => False) d j as (xk_R b, I, J) v (xk_R b', I', J')) : lk_X2 X d lk_K j (as.map (ie_v 0)) (lk_S b I J I2 J2 o) (ie_o 0 v) (lk_S b' I' J' I2 J2 o) :=
  ⟨j, as, v, (xk_R b, I, J), (xk_R b', I', J'), hj, (Nat.zero_add j).symm, rfl, rfl, lk_putx.symm, lk_relx, xk_Rw _ _ _, xk_Rw _ _ _, h⟩
/-- the answer's row -/
theorem lk_out (v : Int64) : ((lk_S b I J I2 J2 o).1, (lk_S b I J I2 J2 o).2.1, ij_u (lk_S b I J I2 J2 o).2.2 88 0 v) = lk_S b I J I2 J2 v := by
  unfold lk_S ij_u
  refine Prod.ext rfl (Prod.ext rfl ?_)
  funext p k
  by_cases hp : p = 88
  · subst hp
    by_cases hk : k = 0 <;> simp [hk]
  · simp [hp]
theorem lk_out0 : (lk_S b I J I2 J2 o).2.2 88 0 = o := by
  unfold lk_S
  simp
end LKW
