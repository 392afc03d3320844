/-! ===== laying a board: the class's classes of sides ===== -/
section KX1
variable {d p : Nat} {cs : Nat → Nat} {o : Nat → Bool} {b : Bool} {J : Nat → Nat → Int64} {X : ij_R}
theorem lx_odd {I : Nat → Nat → Int32} {n : Nat} (hn : n < 10) : lk_cx1 X (d + 1) 47 [.int (nI n)] (xk_R b, I, J) (some (.int (if n % 2 = 1 then 1 else 0))) (xk_R b, I, J) := by
  have e1 : nI n &&& 1 = nI (n % 2) := pk_andN (n := n) (by omega) (m := 1) 1 (by decide)
  by_cases e : n % 2 = 1
  · rw [if_pos e]
    exact ik_cr_of (Nat.le_of_ble_eq_true rfl) (xp_X2_isOdd_0_1 I J (nI n) (e1.trans (congrArg nI e)))
  · rw [if_neg e]
    exact ik_cr_of (Nat.le_of_ble_eq_true rfl) (xp_X2_isOdd_0_0 I J (nI n) (fun q => e ((nI_eq (b := 1) (by omega) (by decide)).mp (e1.symm.trans q))))
/-- what the class's classes need of a board -/
def kx_c (p : Nat) (cs : Nat → Nat) (o : Nat → Bool) (I : Nat → Nat → Int32) : Prop := (3 ≤ p ∧ p ≤ 8) ∧ I 6 8 = nI p ∧ ∀ j, j < p → I 7 j = nI (cs j) ∧ cs j < 10 ∧ (cs j % 2 = 1 ↔ o j = true)
theorem kx_c_fr {I I' : Nat → Nat → Int32} (h : ∀ q k, q ≠ 8 → ¬ (q = 6 ∧ k = 11) → I' q k = I q k) (hc : kx_c p cs o I) : kx_c p cs o I' := ⟨hc.1, (h 6 8 (by decide) (by omega)).trans hc.2.1, fun j hj => ⟨(h 7 j (by decide) (by omega)).trans (hc.2.2 j hj).1, (hc.2.2 j hj).2⟩⟩
theorem kl_x_a {s : Nat} (h : s = 0 ∨ o (s - 1) = false) : kl_x o (s + 1) = (kl_u (kl_x o s).1 s (kl_x o s).2, (kl_x o s).2 + 1) := by
  show (if _ then _ else _) = _
  rw [if_pos h]
theorem kl_x_b {s : Nat} (h : ¬ (s = 0 ∨ o (s - 1) = false)) : kl_x o (s + 1) = (kl_u (kl_x o s).1 s ((kl_x o s).2 - 1), (kl_x o s).2) := by
  show (if _ then _ else _) = _
  rw [if_neg h]
theorem kl_x_le : ∀ s, (kl_x o s).2 ≤ s ∧ (1 ≤ s → 1 ≤ (kl_x o s).2) ∧ ∀ j, j < s → (kl_x o s).1 j < (kl_x o s).2 := by
  intro s
  induction s with
  | zero => exact ⟨Nat.le_refl 0, fun h => absurd h (by decide), fun j hj => absurd hj (Nat.not_lt_zero j)⟩
  | succ s ih =>
    obtain ⟨a1, a2, a3⟩ := ih
    by_cases e : s = 0 ∨ o (s - 1) = false
    · rw [kl_x_a e]
      refine ⟨Nat.succ_le_succ a1, fun _ => Nat.le_add_left 1 _, fun j hj => ?_⟩
      show kl_u (kl_x o s).1 s (kl_x o s).2 j < (kl_x o s).2 + 1
      unfold kl_u
      by_cases ej : j = s
      · rw [if_pos ej]; omega
      · rw [if_neg ej]; have := a3 j (by omega); omega
    · rw [kl_x_b e]
      have s1 : 1 ≤ s := by
        rcases Nat.eq_zero_or_pos s with z | z
        · exact absurd (Or.inl z) e
        · exact z
      have c1 := a2 s1
      refine ⟨Nat.le_succ_of_le a1, fun _ => c1, fun j hj => ?_⟩
      show kl_u (kl_x o s).1 s ((kl_x o s).2 - 1) j < (kl_x o s).2
      unfold kl_u
      by_cases ej : j = s
      · rw [if_pos ej]; omega
      · rw [if_neg ej]; exact a3 j (by omega)
theorem kx_u8 {I : Nat → Nat → Int32} {f : Nat → Nat} {s u : Nat} (h : ∀ j, j < s → I 8 j = nI (f j)) : ∀ j, j < s + 1 → ij_u I 8 s (nI u) 8 j = nI (kl_u f s u j) := fun j hj => by
  unfold kl_u
  by_cases e : j = s
  · subst e
    rw [ij_u_same, if_pos rfl]
  · rw [ij_u_other _ _ _ _ e, if_neg e]
    exact h j (by omega)
theorem lx_so7 : ∀ (r s : Nat) (I : Nat → Nat → Int32), s + r = p → kx_c p cs o I → I 6 11 = nI (kl_x o s).2 → (∀ j, j < s → I 8 j = nI ((kl_x o s).1 j)) → ∃ I' : Nat → Nat → Int32, (∀ v τ, xk_go (ik_cr xk_P xk_M xk_Y xk_K X (d + 1)) 46 (7, [some (.ref 6), some (.int (nI p))], [], (xk_R b, I', J)) v τ → xk_go (ik_cr xk_P xk_M xk_Y xk_K X (d + 1)) 46 (7, [some (.ref 6), some (.int (nI s))], [], (xk_R b, I, J)) v τ) ∧ I' 6 11 = nI (kl_x o p).2 ∧ (∀ j, j < p → I' 8 j = nI ((kl_x o p).1 j)) ∧ ∀ q k, q ≠ 8 → ¬ (q = 6 ∧ k = 11) → I' q k = I q k := by
  intro r
  induction r with
  | zero =>
    intro s I hs hc h11 h8
    have : s = p := by omega
    subst this
    exact ⟨I, fun v τ hg => hg, h11, h8, fun _ _ _ _ => rfl⟩
  | succ r ih =>
    intro s I hs hc h11 h8
    obtain ⟨p3, p8⟩ := hc.1
    obtain ⟨c1, c2, c3⟩ := kl_x_le (o := o) s
    have hge : ¬ I 6 8 ≤ nI s := by rw [hc.2.1]; exact nI_ge (by omega) (by omega)
    have h8' : ¬ (8 : Int32) ≤ nI s := nI_ge (b := 8) (by omega) (by decide)
    have cl : (nI s).toNatClampNeg = s := nI_clamp (by omega)
    have vi : vp_in (nI s) 8 := vp_in_nI (by omega) (by decide)
    have ep : I 6 11 + 1 = nI ((kl_x o s).2 + 1) := by rw [h11, nI_1]
    have em : nI ((kl_x o s).2 + 1) - 1 = nI (kl_x o s).2 := nI_sub1 (Nat.le_add_left 1 _)
    -- a new class
    have fa : (s = 0 ∨ o (s - 1) = false) → ∃ I' : Nat → Nat → Int32, (∀ v τ, xk_go (ik_cr xk_P xk_M xk_Y xk_K X (d + 1)) 46 (7, [some (.ref 6), some (.int (nI p))], [], (xk_R b, I', J)) v τ → xk_go (ik_cr xk_P xk_M xk_Y xk_K X (d + 1)) 46 (7, [some (.ref 6), some (.int (nI (s + 1)))], [], (xk_R b, ij_u (ij_u I 6 11 (nI ((kl_x o s).2 + 1))) 8 s (nI (kl_x o s).2), J)) v τ) ∧ I' 6 11 = nI (kl_x o p).2 ∧ (∀ j, j < p → I' 8 j = nI ((kl_x o p).1 j)) ∧ ∀ q k, q ≠ 8 → ¬ (q = 6 ∧ k = 11) → I' q k = I q k := fun hn => by
      have fr : ∀ q k, q ≠ 8 → ¬ (q = 6 ∧ k = 11) → ij_u (ij_u I 6 11 (nI ((kl_x o s).2 + 1))) 8 s (nI (kl_x o s).2) q k = I q k := fun q k a1 a2 => (lb_u_at (fun z => a1 z.1)).trans (lb_u_at a2)
      obtain ⟨I', k1, k2, k3, k4⟩ := ih (s + 1) (ij_u (ij_u I 6 11 (nI ((kl_x o s).2 + 1))) 8 s (nI (kl_x o s).2)) (by omega) (kx_c_fr fr hc) (by rw [kl_x_a hn]; rfl) (by
        rw [kl_x_a hn]
        exact kx_u8 h8)
      exact ⟨I', k1, k2, k3, fun q k a1 a2 => (k4 q k a1 a2).trans (fr q k a1 a2)⟩
    by_cases e0 : s = 0
    · obtain ⟨I', k1, k2, k3, k4⟩ := fa (Or.inl e0)
      refine ⟨I', fun v τ hg => ?_, k2, k3, k4⟩
      have q := xp_X2_sortClasses_7_4 (C := ik_cr xk_P xk_M xk_Y xk_K X (d + 1)) (v := v) (τ := τ) (b := b) I J (nI s) hge (by decide) h8' (by rw [e0]; rfl) vi
      rw [ep, em, cl, nI_1] at q
      exact q (k1 v τ hg)
    · have ej : nI s - 1 = nI (s - 1) := nI_sub1 (by omega)
      obtain ⟨j1, j2, j3⟩ := hc.2.2 (s - 1) (by omega)
      have q1 := fun (v : Option Value) (τ : ij_S) => xp_X2_sortClasses_7_5 (C := ik_cr xk_P xk_M xk_Y xk_K X (d + 1)) (v := v) (τ := τ) (b := b) (b' := b) (I' := I) (J' := J) I J (nI s) (nI (cs (s - 1))) hge (by decide) h8' (nI_ne0 (by omega) (by omega)) (by rw [ej]; exact lx_cornerB (d := d) p8 (fun j hj => (hc.2.2 j hj).1) (by omega))
      have q2 := fun (v : Option Value) (τ : ij_S) => xp_X2_sortClasses_35_0 (C := ik_cr xk_P xk_M xk_Y xk_K X (d + 1)) (v := v) (τ := τ) (b := b) (b' := b) (I' := I) (J' := J) I J (nI s) (nI (cs (s - 1))) _ (lx_odd (d := d) j2)
      by_cases e : o (s - 1) = true
      · have ho : ¬ (s = 0 ∨ o (s - 1) = false) := fun q => by
          rcases q with q | q
          · exact e0 q
          · rw [e] at q; exact Bool.noConfusion q
        have fr : ∀ q k, q ≠ 8 → ij_u I 8 s (nI ((kl_x o s).2 - 1)) q k = I q k := fun q k a1 => lb_u_at (fun z => a1 z.1)
        obtain ⟨I', k1, k2, k3, k4⟩ := ih (s + 1) (ij_u I 8 s (nI ((kl_x o s).2 - 1))) (by omega) (kx_c_fr (fun q k a1 _ => fr q k a1) hc) (by rw [kl_x_b ho]; exact h11) (by
          rw [kl_x_b ho]
          exact kx_u8 h8)
        refine ⟨I', fun v τ hg => q1 v τ (q2 v τ ?_), k2, k3, fun q k a1 a2 => (k4 q k a1 a2).trans (fr q k a1)⟩
        rw [if_pos (j3.mpr e)]
        have q := xp_X2_sortClasses_38_0 (C := ik_cr xk_P xk_M xk_Y xk_K X (d + 1)) (v := v) (τ := τ) (b := b) I J (nI s) 1 (by decide) vi
        rw [h11, nI_sub1 (c2 (by omega)), cl, nI_1] at q
        exact q (k1 v τ hg)
      · have ef : o (s - 1) = false := by
          cases h : o (s - 1) with
          | false => rfl
          | true => exact absurd h e
        obtain ⟨I', k1, k2, k3, k4⟩ := fa (Or.inr ef)
        refine ⟨I', fun v τ hg => q1 v τ (q2 v τ ?_), k2, k3, k4⟩
        rw [if_neg (fun z => e (j3.mp z))]
        have q := xp_X2_sortClasses_38_1 (C := ik_cr xk_P xk_M xk_Y xk_K X (d + 1)) (v := v) (τ := τ) (b := b) I J (nI s) 0 rfl vi
        rw [ep, em, cl, nI_1] at q
        exact q (k1 v τ hg)
theorem lx_so105 {C : ij_R} {f : Nat → Nat} {m : Nat} (hp : p ≤ 8) (hm : m < 9) (hf : ∀ j, j < p → f j < 9) : ∀ (r s : Nat) (I : Nat → Nat → Int32), s + r = p → I 6 8 = nI p → I 6 11 = nI m → (∀ j, j < s → I 8 j = nI (if f j = m then 0 else f j)) → (∀ j, s ≤ j → j < p → I 8 j = nI (f j)) → ∃ I' : Nat → Nat → Int32, xk_go C 46 (105, [some (.ref 6), some (.int (nI s))], [], (xk_R b, I, J)) none (xk_R b, I', J) ∧ (∀ j, j < p → I' 8 j = nI (if f j = m then 0 else f j)) ∧ ∀ q, q ≠ 8 → I' q = I q := by
  intro r
  induction r with
  | zero =>
    intro s I hs h8 h11 hl hr
    have : s = p := by omega
    subst this
    exact ⟨I, xp_X2_sortClasses_105_0 I J _ (by rw [h8]; exact nI_le (Nat.le_refl s) (by omega)), hl, fun _ _ => rfl⟩
  | succ r ih =>
    intro s I hs h8 h11 hl hr
    have hge : ¬ I 6 8 ≤ nI s := by rw [h8]; exact nI_ge (by omega) (by omega)
    have h8' : ¬ (8 : Int32) ≤ nI s := nI_ge (b := 8) (by omega) (by decide)
    have cl : (nI s).toNatClampNeg = s := nI_clamp (by omega)
    have vi : vp_in (nI s) 8 := vp_in_nI (by omega) (by decide)
    have es := hr s (Nat.le_refl s) (by omega)
    have fs := hf s (by omega)
    obtain ⟨I', k1, k2, k3⟩ := ih (s + 1) (ij_u I 8 s (nI (if f s = m then 0 else f s))) (by omega) h8 h11 (fun j hj => by
      by_cases e : j = s
      · rw [e]; exact ij_u_same _ _ _ _
      · rw [ij_u_other _ _ _ _ e]; exact hl j (by omega)) (fun j h1 h2 => by
      rw [ij_u_other _ _ _ _ (by omega)]; exact hr j (by omega) h2)
    refine ⟨I', ?_, k2, fun q hq => (k3 q hq).trans (ij_u_ne hq)⟩
    by_cases e : f s = m
    · rw [if_pos e] at k1
      have q := xp_X2_sortClasses_105_3 (C := C) (v := none) (τ := (xk_R b, I', J)) (b := b) I J (nI s) hge (by decide) h8' vi
      rw [cl, nI_1] at q
      exact q (by rw [es, h11, e]) vi k1
    · rw [if_neg e] at k1
      have q := xp_X2_sortClasses_105_2 (C := C) (v := none) (τ := (xk_R b, I', J)) (b := b) I J (nI s) hge (by decide) h8' vi
      rw [cl, nI_1, es] at q
      exact q (by rw [h11]; exact fun z => e ((nI_eq (by omega) (by omega)).mp z)) vi vi k1
/-- the class's classes -/
theorem lx_sort {I : Nat → Nat → Int32} (hc : kx_c p cs o I) : ∃ I' : Nat → Nat → Int32, lk_cx1 X (d + 2) 46 [.ref 6] (xk_R b, I, J) none (xk_R b, I', J) ∧ (∀ j, j < p → I' 8 j = nI ((kl_y p o).1 j)) ∧ I' 6 11 = nI (kl_y p o).2 ∧ ∀ q k, q ≠ 8 → ¬ (q = 6 ∧ k = 11) → I' q k = I q k := by
  obtain ⟨p3, p8⟩ := hc.1
  have fr0 : ∀ q k, q ≠ 8 → ¬ (q = 6 ∧ k = 11) → ij_u I 6 11 0 q k = I q k := fun q k _ a2 => lb_u_at a2
  obtain ⟨I1, a1, a2, a3, a4⟩ := lx_so7 (X := X) (d := d) (b := b) (J := J) p 0 (ij_u I 6 11 0) (Nat.zero_add p) (kx_c_fr fr0 hc) rfl (fun j hj => absurd hj (Nat.not_lt_zero j))
  have fr1 : ∀ q k, q ≠ 8 → ¬ (q = 6 ∧ k = 11) → I1 q k = I q k := fun q k x1 x2 => (a4 q k x1 x2).trans (fr0 q k x1 x2)
  have hc1 : kx_c p cs o I1 := kx_c_fr fr1 hc
  obtain ⟨c1, c2, c3⟩ := kl_x_le (o := o) p
  have hle : I1 6 8 ≤ nI p := by rw [hc1.2.1]; exact nI_le (Nat.le_refl p) (by omega)
  have start : ∀ v τ, xk_go (ik_cr xk_P xk_M xk_Y xk_K X (d + 1)) 46 (7, [some (.ref 6), some (.int (nI p))], [], (xk_R b, I1, J)) v τ → lk_cx1 X (d + 2) 46 [.ref 6] (xk_R b, I, J) v τ := fun v τ hg => ik_cr_of (Nat.le_of_ble_eq_true rfl) (xp_X2_sortClasses_0_0 I J (a1 v τ hg))
  by_cases e1 : (kl_x o p).2 ≤ 1
  · have ey : kl_y p o = kl_x o p := by
      unfold kl_y
      exact if_neg (fun z => by omega)
    rw [ey]
    exact ⟨I1, start _ _ (xp_X2_sortClasses_7_0 I1 J _ hle (by rw [a2]; exact nI_le (b := 1) e1 (by decide))), a3, a2, fr1⟩
  · have hn : ¬ I1 6 11 ≤ 1 := by rw [a2]; exact nI_ge (a := 1) (by omega) (by omega)
    obtain ⟨j1, j2, j3⟩ := hc1.2.2 (p - 1) (by omega)
    have q1 := fun (v : Option Value) (τ : ij_S) => xp_X2_sortClasses_7_1 (C := ik_cr xk_P xk_M xk_Y xk_K X (d + 1)) (v := v) (τ := τ) (b := b) (b' := b) (I' := I1) (J' := J) I1 J (nI p) (nI (cs (p - 1))) hle hn (by rw [hc1.2.1, nI_sub1 (by omega)]; exact lx_cornerB (d := d) p8 (fun j hj => (hc1.2.2 j hj).1) (by omega))
    have q2 := fun (v : Option Value) (τ : ij_S) => xp_X2_sortClasses_87_0 (C := ik_cr xk_P xk_M xk_Y xk_K X (d + 1)) (v := v) (τ := τ) (b := b) (b' := b) (I' := I1) (J' := J) I1 J (nI (cs (p - 1))) _ (lx_odd (d := d) j2)
    by_cases e : o (p - 1) = true
    · have ey : kl_y p o = (fun x => if (kl_x o p).1 x = (kl_x o p).2 - 1 then 0 else (kl_x o p).1 x, (kl_x o p).2 - 1) := by
        unfold kl_y
        exact if_pos ⟨by omega, e⟩
      rw [ey]
      obtain ⟨I', k1, k2, k3⟩ := lx_so105 (C := ik_cr xk_P xk_M xk_Y xk_K X (d + 1)) (b := b) (J := J) (f := (kl_x o p).1) (m := (kl_x o p).2 - 1) p8 (by omega) (fun j hj => by have := c3 j hj; omega) p 0 (ij_u I1 6 11 (nI ((kl_x o p).2 - 1))) (Nat.zero_add p) hc1.2.1 rfl (fun j hj => absurd hj (Nat.not_lt_zero j)) (fun j _ hj => a3 j hj)
      refine ⟨I', start _ _ (q1 _ _ (q2 _ _ ?_)), k2, by rw [k3 6 (by decide)]; rfl, fun q k x1 x2 => ?_⟩
      · rw [if_pos (j3.mpr e)]
        have q := xp_X2_sortClasses_90_1 (C := ik_cr xk_P xk_M xk_Y xk_K X (d + 1)) (v := none) (τ := (xk_R b, I', J)) (b := b) I1 J 1 (by decide)
        rw [a2, nI_sub1 (by omega)] at q
        exact q k1
      · rw [k3 q x1]
        exact (lb_u_at x2).trans (fr1 q k x1 x2)
    · have ey : kl_y p o = kl_x o p := by
        unfold kl_y
        exact if_neg (fun z => e z.2)
      rw [ey]
      refine ⟨I1, start _ _ (q1 _ _ (q2 _ _ ?_)), a3, a2, fr1⟩
      rw [if_neg (fun z => e (j3.mp z))]
      exact xp_X2_sortClasses_90_0 I1 J 0 rfl
end KX1
