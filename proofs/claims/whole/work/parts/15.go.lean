/-! ===== how runs of the pure picture are put together ===== -/
section GO
variable {P : ij_P} {M : ij_M} {K : ij_Ks} {C : ij_R} {mi : Nat}
def ij_go (P : ij_P) (M : ij_M) (K : ij_Ks) (C : ij_R) (mi : Nat) (q : ij_C) (v : Option Value) (τ : ij_S) : Prop := ∃ n, ij_ev P M K C mi n q v τ
theorem ij_go_path : ∀ (bs : List Nat) {q : ij_C} {z : List Prop × ij_C} {v : Option Value} {τ : ij_S}, ij_path P K mi bs q = some z → ij_all z.1 → ij_go P M K C mi z.2 v τ → ij_go P M K C mi q v τ := by
  intro bs
  induction bs with
  | nil => intro q z v τ h _ hg; cases h; exact hg
  | cons b bs ih =>
    intro q z v τ h hz hg
    obtain ⟨x, hx, h⟩ := ij_bind h
    obtain ⟨z1, hz1, h⟩ := ij_bind h
    obtain ⟨y, hy, h⟩ := ij_bind h
    obtain rfl := Option.some.inj h
    obtain ⟨hz1', hz2⟩ := ij_all_app hz
    obtain ⟨n, hn⟩ := ih hy hz2 hg
    exact ⟨n + 1, Or.inl ⟨b, x, z1, hx, hz1, hz1', hn⟩⟩
theorem ij_go_call {q : ij_C} {x : Instr × Nat} {j : Nat} {as r : List Value} {w : Option Value} {σ' : ij_S} {v : Option Value} {τ : ij_S} (hx : ij_dc P mi q.1 = some x) (hc : ij_cal P M K mi q.2.2.1 x.1 = some (j, as, r)) (hC : C j as q.2.2.2 w σ')
    (hg : ij_go P M K C mi (q.1 + 3, q.2.1, w.toList ++ r, σ') v τ) : ij_go P M K C mi q v τ := by
  obtain ⟨n, hn⟩ := hg
  exact ⟨n + 1, Or.inr (Or.inl ⟨x, j, as, r, w, σ', hx, hc, hC, hn⟩)⟩
theorem ij_go_ret {q : ij_C} {x : Instr × Nat} {z : Prop × Option Value} (hx : ij_dc P mi q.1 = some x) (hr : ij_ret M mi q.2.2.1 x.1 = some z) (hz : z.1) : ij_go P M K C mi q z.2 q.2.2.2 := ⟨1, Or.inr (Or.inr (Or.inl ⟨x, z, hx, hr, hz, rfl, rfl⟩))⟩
theorem ij_gp (bs : List Nat) {q q' : ij_C} {φ : List Prop} {v : Option Value} {τ : ij_S} (h : ij_path P K mi bs q = some (φ, q')) (hφ : ij_all φ) (hg : ij_go P M K C mi q' v τ) : ij_go P M K C mi q v τ := ij_go_path bs h hφ hg
theorem ij_gc {pc : Nat} {L : ij_L} {st : List Value} {σ : ij_S} {x : Instr × Nat} {j : Nat} {as r : List Value} {w : Option Value} {σ' : ij_S} {v : Option Value} {τ : ij_S} (hx : ij_dc P mi pc = some x) (hc : ij_cal P M K mi st x.1 = some (j, as, r)) (hC : C j as σ w σ')
    (hg : ij_go P M K C mi (pc + 3, L, w.toList ++ r, σ') v τ) : ij_go P M K C mi (pc, L, st, σ) v τ := ij_go_call (q := (pc, L, st, σ)) hx hc hC hg
theorem ij_gr {pc : Nat} {L : ij_L} {st : List Value} {σ : ij_S} {x : Instr × Nat} {φ : Prop} {v : Option Value} (hx : ij_dc P mi pc = some x) (hr : ij_ret M mi st x.1 = some (φ, v)) (hz : φ) : ij_go P M K C mi (pc, L, st, σ) v σ := ij_go_ret (q := (pc, L, st, σ)) (z := (φ, v)) hx hr hz
def ij_le (L' L : ij_L) : Prop := ∀ i w, ij_get L' i = some w → ij_get L i = some w
theorem ij_le_nil {L : ij_L} : ij_le [] L := fun i w h => by rw [ij_get_nil] at h; cases h
theorem ij_le_none {x : Option Value} {L' L : ij_L} (h : ij_le L' L) : ij_le (none :: L') (x :: L) := fun i w hi => by
  cases i with
  | zero => cases hi
  | succ i => exact h i w hi
theorem ij_le_some {x : Option Value} {L' L : ij_L} (h : ij_le L' L) : ij_le (x :: L') (x :: L) := fun i w hi => by
  cases i with
  | zero => exact hi
  | succ i => exact h i w hi
theorem ij_go_le {pc : Nat} {L L' : ij_L} {st : List Value} {σ : ij_S} {v : Option Value} {τ : ij_S} (h : ij_le L' L) (hg : ij_go P M K C mi (pc, L', st, σ) v τ) : ij_go P M K C mi (pc, L, st, σ) v τ := by
  obtain ⟨n, hn⟩ := hg
  exact ⟨n + 1, Or.inr (Or.inr (Or.inr ⟨L', h, hn⟩))⟩
end GO
theorem ij_cr_of {P : ij_P} {M : ij_M} {K : ij_Ks} {X : ij_R} {d j : Nat} {as : List Value} {σ τ : ij_S} {v : Option Value} (hl : (lg_sl as).length ≤ ij_ml P j) (h : ij_go P M K (ij_cr P M K X d) j (0, ij_in as (ij_ml P j), [], σ) v τ) : ij_cr P M K X (d + 1) j as σ v τ := Or.inr ⟨hl, h⟩
