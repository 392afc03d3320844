/-! ===== laying a board: one side of one tile, in the reference ===== -/
theorem an_c1_lt (m : Nat) : an_c1 m < an_P1 := by
  unfold an_c1
  by_cases e : m = 0
  · rw [if_pos e]; decide
  · rw [if_neg e]; exact Nat.mod_lt _ (by decide)
theorem an_c2_lt (m : Nat) : an_c2 m < an_P2 := by
  unfold an_c2
  by_cases e : m = 0
  · rw [if_pos e]; decide
  · rw [if_neg e]; exact Nat.mod_lt _ (by decide)
/-- the vector of tile t turned over side s, modulo both primes -/
def rv_w1 (p : Nat) (cs : Nat → Nat) (V1 : Nat → Nat → Nat) (t s : Nat) : Nat → Nat := tn_r an_P1 (fun j => an_c1 (an_m p cs s j)) (V1 t) s
def rv_w2 (p : Nat) (cs : Nat → Nat) (V2 : Nat → Nat → Nat) (t s : Nat) : Nat → Nat := tn_r an_P2 (fun j => an_c2 (an_m p cs s j)) (V2 t) s
/-- the reference under way -/
def rv_st (p : Nat) (cs : Nat → Nat) (n : Nat) (V1 V2 : Nat → Nat → Nat) (tb : Nat → Nat) (I : Nat → Nat → Int32) (J : Nat → Nat → Int64) : Prop := p ≤ 8 ∧ n ≤ 2000 ∧ I 0 1 = nI p ∧ I 0 21 = nI n ∧ an_t p cs J ∧ rv_ok p n V1 V2 tb I J
theorem rg_neg {y : Nat} (h : y < 8192) : ¬ (0 : Int32) ≤ -1 - nI y := by
  intro hle
  have h1 := Int32.le_iff_toInt_le.mp hle
  have e : (-1 - nI y : Int32) = Int32.ofInt (-1 - (y : Int)) := by
    rw [Int32.ofInt_sub]; rfl
  rw [e, Int32.toInt_ofInt] at h1
  have z : (0 : Int32).toInt = 0 := rfl
  have zs : (Int32.size : Int) = 4294967296 := rfl
  rw [z, Int.bmod_eq_of_le (by rw [zs]; omega) (by rw [zs]; omega)] at h1
  omega
theorem rg_back {y : Nat} : (-1 : Int32) - (-1 - nI y) = nI y := by
  rw [Int32.sub_eq_add_neg (-1) _, Int32.neg_sub, Int32.add_comm, Int32.sub_add_cancel]
section RG1
variable {d p n : Nat} {cs : Nat → Nat} {I : Nat → Nat → Int32} {J : Nat → Nat → Int64} {V1 V2 : Nat → Nat → Nat} {tb : Nat → Nat} {t s : Nat} {x2 g : Int32}
/-- up to the look-up -/
theorem rs_rg53 (h : rv_st p cs n V1 V2 tb I J) (ht : t < n) (hs : s < p) (hm : I 7 (8 * t + s) = -1) : ∃ J1 : Nat → Nat → Int64, (∀ q, q ≠ 17 → q ≠ 18 → J1 q = J q) ∧ rv_st p cs n V1 V2 tb I J1 ∧ (∀ j, j < p → (J1 17 j = lN (rv_w1 p cs V1 t s j) ∧ rv_w1 p cs V1 t s j < an_P1) ∧ (J1 18 j = lN (rv_w2 p cs V2 t s j) ∧ rv_w2 p cs V2 t s j < an_P2)) ∧ ∀ w, rk_call (d + 2) 26 [.ref 0] (rk_R, I, J1) (some (.int w)) (rk_R, I, J1) → ∀ v τ, rk_go (rk_call (d + 2)) 28 (53, [some (.ref 0), none, some (.int x2), some (.int g), some (.int (nI t)), some (.int (nI s)), none], [.int w], (rk_R, I, J1)) v τ → rk_go (rk_call (d + 2)) 28 (12, [some (.ref 0), none, some (.int x2), some (.int g), some (.int (nI t)), some (.int (nI s)), none], [], (rk_R, I, J)) v τ := by
  obtain ⟨p8, n2, h1, h21, ha, hv⟩ := h
  obtain ⟨J1, z1, z2, z3⟩ := rs_turns (d := d + 1) (I := I) (J := J) (t := t) (s := s) (c1 := fun j => an_c1 (an_m p cs s j)) (c2 := fun j => an_c2 (an_m p cs s j)) (V1 := V1 t) (V2 := V2 t) p8 (by omega) hs h1 (fun j hj => by
    have a := ha s j hs hj
    have v := hv.1 t j ht hj
    exact ⟨⟨v.1.1, v.1.2, a.1, an_c1_lt _⟩, v.2.1, v.2.2, a.2, an_c2_lt _⟩)
  refine ⟨J1, z3, ⟨p8, n2, h1, h21, fun i j hi hj => ?_, rv_fr hv rfl (z3 15 (by decide) (by decide)) (z3 16 (by decide) (by decide))⟩, fun j hj => ⟨⟨(z2 j hj).1, tn_r_lt (by decide) _ _ _ _⟩, (z2 j hj).2, tn_r_lt (by decide) _ _ _ _⟩, fun w hw v τ hg => ?_⟩
  · rw [z3 19 (by decide) (by decide), z3 20 (by decide) (by decide)]
    exact ha i j hi hj
  · have q := rp_rings_12_1 (C := rk_call (d + 2)) (v := v) (τ := τ) (I' := I) (J' := J1) I J x2 g (nI t) (nI s) (by rw [h1]; exact nI_ge (by omega) (by omega))
    rw [lr_8' t s, nI_clamp (show 8 * t + s < 2 ^ 31 by omega)] at q
    exact q (vp_in_nI (by omega) (by decide)) hm z1 (rp_rings_49_0 I J1 _ _ _ _ w hw hg)
/-- a tile that is there already -/
theorem rs_rg_old (h : rv_st p cs n V1 V2 tb I J) (ht : t < n) (hs : s < p) (hm : I 7 (8 * t + s) = -1) {u : Nat} (hu : u < n) (he : rv_e p (V1 u) (V2 u) (rv_w1 p cs V1 t s) (rv_w2 p cs V2 t s)) : ∃ J1 : Nat → Nat → Int64, (∀ q, q ≠ 17 → q ≠ 18 → J1 q = J q) ∧ ∀ v τ, rk_go (rk_call (d + 2)) 28 (12, [some (.ref 0), none, some (.int x2), some (.int g), some (.int (nI t)), some (.int (nI (s + 1))), none], [], (rk_R, ij_u (ij_u (ij_u I 7 (8 * t + s) (nI u)) 7 (8 * u + s) (nI t)) 9 u (I 9 u + 1), ij_u J1 14 u (J 14 u + J 14 t))) v τ → rk_go (rk_call (d + 2)) 28 (12, [some (.ref 0), none, some (.int x2), some (.int g), some (.int (nI t)), some (.int (nI s)), none], [], (rk_R, I, J)) v τ := by
  have h2 := h
  obtain ⟨p8, n2, h1, h21, ha, hv⟩ := h2
  obtain ⟨J1, z1, z2, z3, z4⟩ := rs_rg53 (d := d) (x2 := x2) (g := g) h ht hs hm
  refine ⟨J1, z1, fun v τ hg => z4 (nI u) ((rs_seek (d := d) p8 n2 h1 z2.2.2.2.2.2 z3).1 u hu he) v τ ?_⟩
  have vu : vp_in (nI u) 2000 := vp_in_nI (by omega) (by decide)
  have q := rp_rings_53_0 (C := rk_call (d + 2)) (v := v) (τ := τ) I J1 x2 g (nI t) (nI s) (nI u) (nI_le (a := 0) (Nat.zero_le u) (by omega))
  rw [lr_8' t s, lr_8' u s, nI_clamp (show 8 * t + s < 2 ^ 31 by omega), nI_clamp (show 8 * u + s < 2 ^ 31 by omega), nI_clamp (show u < 2 ^ 31 by omega), nI_clamp (show t < 2 ^ 31 by omega), nI_1, z1 14 (by decide) (by decide)] at q
  exact q (vp_in_nI (by omega) (by decide)) (vp_in_nI (by omega) (by decide)) vu (vp_in_nI (by omega) (by decide)) vu vu vu hg
/-- there is no room for a new tile -/
theorem rs_rg_full (h : rv_st p cs 2000 V1 V2 tb I J) (ht : t < 2000) (hs : s < p) (hm : I 7 (8 * t + s) = -1) (hno : ∀ u, u < 2000 → ¬ rv_e p (V1 u) (V2 u) (rv_w1 p cs V1 t s) (rv_w2 p cs V2 t s)) : ∃ J1 : Nat → Nat → Int64, (∀ q, q ≠ 17 → q ≠ 18 → J1 q = J q) ∧ rk_go (rk_call (d + 2)) 28 (12, [some (.ref 0), none, some (.int x2), some (.int g), some (.int (nI t)), some (.int (nI s)), none], [], (rk_R, I, J)) (some (.int 0)) (rk_R, I, J1) := by
  have h2 := h
  obtain ⟨p8, n2, h1, h21, ha, hv⟩ := h2
  obtain ⟨J1, z1, z2, z3, z4⟩ := rs_rg53 (d := d) (x2 := x2) (g := g) h ht hs hm
  obtain ⟨k, k1, k2, k3⟩ := (rs_seek (d := d) p8 n2 h1 z2.2.2.2.2.2 z3).2 hno
  have hk := Nat.mod_lt (fd_y (fd_hs (rv_w1 p cs V1 t s) (rv_w2 p cs V2 t s) p) + k) (show 0 < 8192 by decide)
  exact ⟨J1, z1, z4 _ k1 _ _ (rp_rings_53_2 I J1 _ _ _ _ _ (rg_neg (by omega)) h21)⟩
end RG1
