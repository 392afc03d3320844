/-! ===== how runs with nest mates, and runs that may throw, are put together ===== -/
section GOK
variable {P : ij_P} {M : ij_M} {Y : ik_E} {K : ij_Ks} {C : ij_R} {mi : Nat}
def ik_go (P : ij_P) (M : ij_M) (Y : ik_E) (K : ij_Ks) (C : ij_R) (mi : Nat) (q : ij_C) (v : Option Value) (τ : ij_S) : Prop := ∃ n, ik_ev P M Y K C mi n q v τ
theorem ik_gp : ∀ (bs : List Nat) {q q' : ij_C} {φ : List Prop} {v : Option Value} {τ : ij_S}, ij_path P K mi bs q = some (φ, q') → ij_all φ → ik_go P M Y K C mi q' v τ → ik_go P M Y K C mi q v τ := by
  intro bs
  induction bs with
  | nil => intro q q' φ v τ h _ hg; cases h; exact hg
  | cons b bs ih =>
    intro q q' φ v τ h hz hg
    obtain ⟨x, hx, h⟩ := ij_bind h
    obtain ⟨z1, hz1, h⟩ := ij_bind h
    obtain ⟨⟨φ2, q2⟩, hy, h⟩ := ij_bind h
    cases h
    obtain ⟨hz1', hz2⟩ := ij_all_app hz
    obtain ⟨n, hn⟩ := ih hy hz2 hg
    exact ⟨n + 1, Or.inl ⟨b, x, z1, hx, hz1, hz1', hn⟩⟩
variable {pc : Nat} {L : ij_L} {st : List Value} {σ : ij_S} {x : Instr × Nat} {j : Nat} {as r : List Value} {w : Option Value} {σ' : ij_S} {v : Option Value} {τ : ij_S}
theorem ik_gc (hx : ij_dc P mi pc = some x) (hc : ij_cal P M K mi st x.1 = some (j, as, r)) (hC : C j as σ w σ') (hg : ik_go P M Y K C mi (pc + 3, L, w.toList ++ r, σ') v τ) : ik_go P M Y K C mi (pc, L, st, σ) v τ := by
  obtain ⟨n, hn⟩ := hg
  exact ⟨n + 1, Or.inr (Or.inl ⟨x, j, as, r, w, σ', hx, hc, hC, hn⟩)⟩
theorem ik_gr {φ : Prop} (hx : ij_dc P mi pc = some x) (hr : ij_ret M mi st x.1 = some (φ, v)) (hz : φ) : ik_go P M Y K C mi (pc, L, st, σ) v σ := ⟨1, Or.inr (Or.inr (Or.inl ⟨x, (φ, v), hx, hr, hz, rfl, rfl⟩))⟩
theorem ik_gn (hx : ij_dc P mi pc = some x) (hc : ik_nes P M Y mi st x.1 = some (j, as, r)) (hC : C j as σ w σ') (hg : ik_go P M Y K C mi (pc + 3, L, w.toList ++ r, σ') v τ) : ik_go P M Y K C mi (pc, L, st, σ) v τ := by
  obtain ⟨n, hn⟩ := hg
  exact ⟨n + 1, Or.inr (Or.inr (Or.inr (Or.inl ⟨x, j, as, r, w, σ', hx, hc, hC, hn⟩)))⟩
theorem ik_gy {φ : List Prop} (hx : ij_dc P mi pc = some x) (hc : ik_cpy P Y K mi st σ x.1 = some (φ, r, σ')) (hz : ij_all φ) (hg : ik_go P M Y K C mi (pc + 3, L, r, σ') v τ) : ik_go P M Y K C mi (pc, L, st, σ) v τ := by
  obtain ⟨n, hn⟩ := hg
  exact ⟨n + 1, Or.inr (Or.inr (Or.inr (Or.inr (Or.inl ⟨x, (φ, r, σ'), hx, hc, hz, hn⟩))))⟩
theorem ik_gs {i pl : Nat} (hx : ij_dc P mi pc = some (.ldc i, 2)) (hs : ik_sl Y (ij_mo P mi) i = some pl) (hg : ik_go P M Y K C mi (pc + 2, L, .ref pl :: st, σ) v τ) : ik_go P M Y K C mi (pc, L, st, σ) v τ := by
  obtain ⟨n, hn⟩ := hg
  exact ⟨n + 1, Or.inr (Or.inr (Or.inr (Or.inr (Or.inr (Or.inl ⟨i, pl, hx, hs, hn⟩)))))⟩
theorem ik_go_le {L' : ij_L} (h : ij_le L' L) (hg : ik_go P M Y K C mi (pc, L', st, σ) v τ) : ik_go P M Y K C mi (pc, L, st, σ) v τ := by
  obtain ⟨n, hn⟩ := hg
  exact ⟨n + 1, Or.inr (Or.inr (Or.inr (Or.inr (Or.inr (Or.inr ⟨L', h, hn⟩)))))⟩
theorem ik_cr_of {X : ij_R} {d : Nat} (hl : (lg_sl as).length ≤ ij_ml P j) (h : ik_go P M Y K (ik_cr P M Y K X d) j (0, ij_in as (ij_ml P j), [], σ) v τ) : ik_cr P M Y K X (d + 1) j as σ v τ := Or.inr ⟨hl, h⟩
end GOK
section GOX
variable {P : ij_P} {M : ij_M} {K : ij_Ks} {T : ix_T} {C1 : ij_R} {C2 : ix_R} {mi : Nat}
def ix_go (P : ij_P) (M : ij_M) (K : ij_Ks) (T : ix_T) (C1 : ij_R) (C2 : ix_R) (mi : Nat) (b : Nat) (q : ij_C) (o : ix_O) (τ : ij_S) : Prop := ∃ n, ix_ev P M K T C1 C2 mi n b q o τ
theorem ix_gp : ∀ (bs : List Nat) {b : Nat} {q q' : ij_C} {φ : List Prop} {o : ix_O} {τ : ij_S}, ij_path P K mi bs q = some (φ, q') → ij_all φ → ix_go P M K T C1 C2 mi b q' o τ → ix_go P M K T C1 C2 mi b q o τ := by
  intro bs
  induction bs with
  | nil => intro b q q' φ v τ h _ hg; cases h; exact hg
  | cons k bs ih =>
    intro b q q' φ v τ h hz hg
    obtain ⟨x, hx, h⟩ := ij_bind h
    obtain ⟨z1, hz1, h⟩ := ij_bind h
    obtain ⟨⟨φ2, q2⟩, hy, h⟩ := ij_bind h
    cases h
    obtain ⟨hz1', hz2⟩ := ij_all_app hz
    obtain ⟨n, hn⟩ := ih hy hz2 hg
    exact ⟨n + 1, Or.inl ⟨k, x, z1, hx, hz1, hz1', hn⟩⟩
variable {pc b : Nat} {L : ij_L} {st : List Value} {σ : ij_S} {x : Instr × Nat} {j : Nat} {as r : List Value} {w : Option Value} {σ' : ij_S} {o : ix_O} {τ : ij_S} {E : String}
theorem ix_gc1 (hx : ij_dc P mi pc = some x) (hc : ij_cal P M K mi st x.1 = some (j, as, r)) (hm : ix_mh T j = []) (hC : C1 j as σ w σ') (hg : ix_go P M K T C1 C2 mi b (pc + 3, L, w.toList ++ r, σ') o τ) : ix_go P M K T C1 C2 mi b (pc, L, st, σ) o τ := by
  obtain ⟨n, hn⟩ := hg
  exact ⟨n + 1, Or.inr (Or.inl ⟨x, j, as, r, w, σ', hx, hc, hm, hC, hn⟩)⟩
theorem ix_gc2 (hx : ij_dc P mi pc = some x) (hc : ij_cal P M K mi st x.1 = some (j, as, r)) (hb : ix_co T j ≤ b) (hC : C2 j as σ (.inl w) σ') (hg : ix_go P M K T C1 C2 mi (b - ix_co T j) (pc + 3, L, w.toList ++ r, σ') o τ) : ix_go P M K T C1 C2 mi b (pc, L, st, σ) o τ := by
  obtain ⟨n, hn⟩ := hg
  exact ⟨n + 1, Or.inr (Or.inr (Or.inl ⟨x, j, as, r, w, σ', hx, hc, hb, hC, hn⟩))⟩
theorem ix_gt (hx : ij_dc P mi pc = some x) (hc : ij_cal P M K mi st x.1 = some (j, as, r)) (hb : ix_co T j ≤ b) (hC : C2 j as σ (.inr E) τ) (hm : ix_mh T mi = []) : ix_go P M K T C1 C2 mi b (pc, L, st, σ) (.inr E) τ := ⟨1, Or.inr (Or.inr (Or.inr (Or.inl ⟨x, j, as, r, E, hx, hc, hb, hC, hm, rfl⟩)))⟩
theorem ix_gh {h i len : Nat} {y : Instr × Nat} {L' : ij_L} (hx : ij_dc P mi pc = some x) (hc : ij_cal P M K mi st x.1 = some (j, as, r)) (hb : ix_co T j ≤ b) (hC : C2 j as σ (.inr E) σ') (hh : ix_hx T mi pc E = some h) (hy : ij_dc P mi h = some y) (ha : ix_as y.1 = some (i, len)) (hi : i < ij_ml P mi) (hL : ∀ k w, ij_get L' k = some w → ij_get L k = some w ∧ k ≠ i ∧ ¬ (k + 1 = i ∧ w.category = 2))
    (hg : ix_go P M K T C1 C2 mi (b - ix_co T j) (h + len, L', [], σ') o τ) : ix_go P M K T C1 C2 mi b (pc, L, st, σ) o τ := by
  obtain ⟨n, hn⟩ := hg
  exact ⟨n + 1, Or.inr (Or.inr (Or.inr (Or.inr (Or.inl ⟨x, j, as, r, E, σ', h, y, i, len, L', hx, hc, hb, hC, hh, hy, ha, hi, hL, hn⟩))))⟩
theorem ix_gr {φ : Prop} {v : Option Value} (hx : ij_dc P mi pc = some x) (hr : ij_ret M mi st x.1 = some (φ, v)) (hz : φ) : ix_go P M K T C1 C2 mi b (pc, L, st, σ) (.inl v) σ := ⟨1, Or.inr (Or.inr (Or.inr (Or.inr (Or.inr (Or.inl ⟨x, (φ, v), hx, hr, hz, rfl, rfl⟩)))))⟩
theorem ix_gw (ht : ix_th T mi pc = some E) (hb : 1 ≤ b) (hs : ij_cs st ≤ 8) (hm : ix_mh T mi = []) : ix_go P M K T C1 C2 mi b (pc, L, st, σ) (.inr E) σ := ⟨1, Or.inr (Or.inr (Or.inr (Or.inr (Or.inr (Or.inr (Or.inl ⟨E, ht, hb, hs, hm, rfl, rfl⟩))))))⟩
theorem ix_go_le {L' : ij_L} (h : ij_le L' L) (hg : ix_go P M K T C1 C2 mi b (pc, L', st, σ) o τ) : ix_go P M K T C1 C2 mi b (pc, L, st, σ) o τ := by
  obtain ⟨n, hn⟩ := hg
  exact ⟨n + 1, Or.inr (Or.inr (Or.inr (Or.inr (Or.inr (Or.inr (Or.inr ⟨L', h, hn⟩))))))⟩
end GOX
