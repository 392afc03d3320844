/-! ===== laying a board: rows, rings ===== -/
abbrev jc2 (X : ij_R) (d to t : Nat) (b : Bool) (I : Nat → Nat → Int32) (J : Nat → Nat → Int64) (v : Option Value) (τ : ij_S) : Prop := xk_go (ik_cr xk_P xk_M xk_Y xk_K X (d + 4)) 49 (2, [some (.ref 6), none, some (.int (nI to)), some (.int (nI t)), none], [], (xk_R b, I, J)) v τ
abbrev jq2 (d to G t : Nat) (I : Nat → Nat → Int32) (J : Nat → Nat → Int64) (v : Option Value) (τ : ij_S) : Prop := rk_go (rk_call (d + 2)) 28 (3, [some (.ref 0), none, some (.int (nI to)), some (.int (nI (G + 1))), some (.int (nI t)), none, none], [], (rk_R, I, J)) v τ
section JT2
variable {X : ij_R} {d e p t to G : Nat} {b : Bool} {cs : Nat → Nat} {Q : pg_Q}
theorem jt_row (hp3 : 3 ≤ p) (hQ : pg_ok p cs Q) (hto : to ≤ 2000) (htt : t < to) : ∀ (r s n : Nat) (ac : Nat → Nat → Nat) (rg : Nat → Nat) (V1 V2 : Nat → Nat → Nat) (I : Nat → Nat → Int32) (J : Nat → Nat → Int64) (I2 : Nat → Nat → Int32) (J2 : Nat → Nat → Int64), s + r = p → rg t = G → jt p cs Q n ac rg V1 V2 t s I J I2 J2 →
    (∃ s' ac' rg' V1' V2' I' J' I2' J2', s' < p ∧ jt p cs Q 2000 ac' rg' V1' V2' t s' I' J' I2' J2' ∧ jg n G rg 2000 rg' ∧ jf n I J I2 J2 I' J' I2' J2' ∧ jc X d to t s b I J (some (.int 0)) (xk_R b, I', J') ∧ jq e to G t s I2 J2 (some (.int 0)) (rk_R, I2', J2')) ∨
    ∃ n' ac' rg' V1' V2' I' J' I2' J2', jt p cs Q n' ac' rg' V1' V2' (t + 1) 0 I' J' I2' J2' ∧ jg n G rg n' rg' ∧ jf n I J I2 J2 I' J' I2' J2' ∧ (∀ v τ, jc2 X d to (t + 1) b I' J' v τ → jc X d to t s b I J v τ) ∧ ∀ v τ, jq2 e to G (t + 1) I2' J2' v τ → jq e to G t s I2 J2 v τ := by
  intro r
  induction r with
  | zero =>
    intro s n ac rg V1 V2 I J I2 J2 hs hG hj
    have hs' : s = p := by omega
    subst hs'
    obtain ⟨hq, hc, ⟨tb, hr⟩, hnm⟩ := hj
    obtain ⟨⟨htn, hg, h63, _⟩, k0, _, _⟩ := hQ.2 n ac rg V1 V2 t s hq
    right
    refine ⟨n, ac, rg, V1, V2, I, J, I2, J2, ⟨k0 rfl, hc, ⟨tb, rr_congr hr (fun x y hx hy => (pd_next hy).symm)⟩, hnm⟩, ⟨Nat.le_refl _, fun _ _ => rfl, fun x a b => absurd b (by omega)⟩, jf_refl, fun v τ z => ?_, fun v τ z => ?_⟩
    · refine xp_X2_layRing_10_0 I J _ _ _ (by rw [hc.1.2.2.1]; exact Int32.le_refl _) ?_
      rw [nI_1]; exact z
    · refine rp_rings_12_0 I2 J2 _ _ _ _ (by rw [hr.1.2.2.1]; exact Int32.le_refl _) ?_
      rw [nI_1]; exact z
  | succ r ih =>
    intro s n ac rg V1 V2 I J I2 J2 hs hG hj
    have htn : t < n := (hQ.2 n ac rg V1 V2 t s hj.1).1.1
    rcases jt_step (X := X) (d := d) (e := e) (to := to) (b := b) hp3 hQ hj (by omega) with ⟨h1, h2, h3, J3, h4, h5, h6⟩ | ⟨n', ac', rg', V1', V2', I', J', I2', J2', h1, h2, h3, h4, h5⟩
    · left
      subst h1
      rw [hG] at h6
      exact ⟨s, ac, rg, V1, V2, I, J, I2, J3, by omega, h4, ⟨Nat.le_refl _, fun _ _ => rfl, fun x a b => absurd b (by omega)⟩, h5, h3, h6⟩
    · rw [hG] at h2 h5
      rcases ih (s + 1) n' ac' rg' V1' V2' I' J' I2' J2' (by omega) ((h2.2.1 t htn).trans hG) h1 with ⟨s3, ac3, rg3, V13, V23, I3, J3, I23, J23, g0, g1, g2, g3, g4, g5⟩ | ⟨n3, ac3, rg3, V13, V23, I3, J3, I23, J23, g1, g2, g3, g4, g5⟩
      · exact Or.inl ⟨s3, ac3, rg3, V13, V23, I3, J3, I23, J23, g0, g1, jg_trans h2 g2, jf_trans h2.1 h3 g3, h4 _ _ g4, h5 _ _ g5⟩
      · exact Or.inr ⟨n3, ac3, rg3, V13, V23, I3, J3, I23, J23, g1, jg_trans h2 g2, jf_trans h2.1 h3 g3, fun v τ z => h4 v τ (g4 v τ z), fun v τ z => h5 v τ (g5 v τ z)⟩
theorem jt_ring0 (hp3 : 3 ≤ p) (hQ : pg_ok p cs Q) (hto : to ≤ 2000) : ∀ (r t n : Nat) (ac : Nat → Nat → Nat) (rg : Nat → Nat) (V1 V2 : Nat → Nat → Nat) (I : Nat → Nat → Int32) (J : Nat → Nat → Int64) (I2 : Nat → Nat → Int32) (J2 : Nat → Nat → Int64), t + r = to → to ≤ n → (∀ x, t ≤ x → x < to → rg x = G) → jt p cs Q n ac rg V1 V2 t 0 I J I2 J2 →
    (∃ t' s' ac' rg' V1' V2' I' J' I2' J2', t ≤ t' ∧ t' < to ∧ s' < p ∧ jt p cs Q 2000 ac' rg' V1' V2' t' s' I' J' I2' J2' ∧ jg n G rg 2000 rg' ∧ jf n I J I2 J2 I' J' I2' J2' ∧ jc2 X d to t b I J (some (.int 0)) (xk_R b, I', J') ∧ jq2 e to G t I2 J2 (some (.int 0)) (rk_R, I2', J2')) ∨
    ∃ n' ac' rg' V1' V2' I' J' I2' J2', jt p cs Q n' ac' rg' V1' V2' to 0 I' J' I2' J2' ∧ jg n G rg n' rg' ∧ jf n I J I2 J2 I' J' I2' J2' ∧ jc2 X d to t b I J (some (.int 1)) (xk_R b, I', J') ∧ jq2 e to G t I2 J2 (some (.int 1)) (rk_R, I2', J2') := by
  intro r
  induction r with
  | zero =>
    intro t n ac rg V1 V2 I J I2 J2 hr hn hG hj
    have : t = to := by omega
    subst this
    exact Or.inr ⟨n, ac, rg, V1, V2, I, J, I2, J2, hj, ⟨Nat.le_refl _, fun _ _ => rfl, fun x a b => absurd b (by omega)⟩, jf_refl, xp_X2_layRing_2_0 I J _ _ (Int32.le_refl _), rp_rings_3_0 I2 J2 _ _ _ (Int32.le_refl _)⟩
  | succ r ih =>
    intro t n ac rg V1 V2 I J I2 J2 hr hn hG hj
    have cx : ∀ v τ, jc X d to t 0 b I J v τ → jc2 X d to t b I J v τ := fun v τ z => xp_X2_layRing_2_1 I J _ _ (nI_ge (by omega) (by omega)) z
    have cq : ∀ v τ, jq e to G t 0 I2 J2 v τ → jq2 e to G t I2 J2 v τ := fun v τ z => rp_rings_3_1 I2 J2 _ _ _ (nI_ge (by omega) (by omega)) z
    rcases jt_row (X := X) (d := d) (e := e) (b := b) hp3 hQ hto (show t < to by omega) p 0 n ac rg V1 V2 I J I2 J2 (by omega) (hG t (Nat.le_refl _) (by omega)) hj with ⟨s3, ac3, rg3, V13, V23, I3, J3, I23, J23, g0, g1, g2, g3, g4, g5⟩ | ⟨n3, ac3, rg3, V13, V23, I3, J3, I23, J23, g1, g2, g3, g4, g5⟩
    · exact Or.inl ⟨t, s3, ac3, rg3, V13, V23, I3, J3, I23, J23, Nat.le_refl _, by omega, g0, g1, g2, g3, cx _ _ g4, cq _ _ g5⟩
    · have l := g2.1
      rcases ih (t + 1) n3 ac3 rg3 V13 V23 I3 J3 I23 J23 (by omega) (by omega) (fun x a b => (g2.2.1 x (by omega)).trans (hG x (by omega) b)) g1 with ⟨t4, s4, ac4, rg4, V14, V24, I4, J4, I24, J24, k0, k1, k2, k3, k4, k5, k6, k7⟩ | ⟨n4, ac4, rg4, V14, V24, I4, J4, I24, J24, k3, k4, k5, k6, k7⟩
      · exact Or.inl ⟨t4, s4, ac4, rg4, V14, V24, I4, J4, I24, J24, by omega, k1, k2, k3, jg_trans g2 k4, jf_trans l g3 k5, cx _ _ (g4 _ _ k6), cq _ _ (g5 _ _ k7)⟩
      · exact Or.inr ⟨n4, ac4, rg4, V14, V24, I4, J4, I24, J24, k3, jg_trans g2 k4, jf_trans l g3 k5, cx _ _ (g4 _ _ k6), cq _ _ (g5 _ _ k7)⟩
/-- one ring, as both are called -/
theorem jt_ring (hp3 : 3 ≤ p) (hQ : pg_ok p cs Q) {fr n : Nat} {ac : Nat → Nat → Nat} {rg : Nat → Nat} {V1 V2 : Nat → Nat → Nat} {I : Nat → Nat → Int32} {J : Nat → Nat → Int64} {I2 : Nat → Nat → Int32} {J2 : Nat → Nat → Int64} (hfr : fr ≤ n) (hn : n ≤ 2000) (hG : ∀ x, fr ≤ x → x < n → rg x = G) (hj : jt p cs Q n ac rg V1 V2 fr 0 I J I2 J2) :
    ∃ (w : Int32) (t' s' n' : Nat) (ac' : Nat → Nat → Nat) (rg' : Nat → Nat) (V1' V2' : Nat → Nat → Nat) (I' : Nat → Nat → Int32) (J' : Nat → Nat → Int64) (I2' : Nat → Nat → Int32) (J2' : Nat → Nat → Int64), (w = 1 ∧ t' = n ∧ s' = 0 ∨ w = 0 ∧ n' = 2000 ∧ fr ≤ t' ∧ t' < n ∧ s' < p) ∧ jt p cs Q n' ac' rg' V1' V2' t' s' I' J' I2' J2' ∧ jg n G rg n' rg' ∧ jf n I J I2 J2 I' J' I2' J2' ∧ lk_cx1 X (d + 5) 49 [.ref 6, .int (nI fr), .int (nI n)] (xk_R b, I, J) (some (.int w)) (xk_R b, I', J') ∧ rk_call (e + 3) 28 [.ref 0, .int (nI fr), .int (nI n), .int (nI (G + 1))] (rk_R, I2, J2) (some (.int w)) (rk_R, I2', J2') := by
  have kx : ∀ w I' J', jc2 X d n fr b I J (some (.int w)) (xk_R b, I', J') → lk_cx1 X (d + 5) 49 [.ref 6, .int (nI fr), .int (nI n)] (xk_R b, I, J) (some (.int w)) (xk_R b, I', J') := fun w I' J' z => ik_cr_of (Nat.le_of_ble_eq_true rfl) (xp_X2_layRing_0_0 I J _ _ z)
  have kr : ∀ w I' J', jq2 e n G fr I2 J2 (some (.int w)) (rk_R, I', J') → rk_call (e + 3) 28 [.ref 0, .int (nI fr), .int (nI n), .int (nI (G + 1))] (rk_R, I2, J2) (some (.int w)) (rk_R, I', J') := fun w I' J' z => ij_cr_of (Nat.le_of_ble_eq_true rfl) (rp_rings_0_0 I2 J2 _ _ _ z)
  rcases jt_ring0 (X := X) (d := d) (e := e) (b := b) hp3 hQ hn (n - fr) fr n ac rg V1 V2 I J I2 J2 (by omega) (Nat.le_refl _) hG hj with ⟨t4, s4, ac4, rg4, V14, V24, I4, J4, I24, J24, k0, k1, k2, k3, k4, k5, k6, k7⟩ | ⟨n4, ac4, rg4, V14, V24, I4, J4, I24, J24, k3, k4, k5, k6, k7⟩
  · exact ⟨0, t4, s4, 2000, ac4, rg4, V14, V24, I4, J4, I24, J24, Or.inr ⟨rfl, rfl, k0, k1, k2⟩, k3, k4, k5, kx _ _ _ k6, kr _ _ _ k7⟩
  · exact ⟨1, n, 0, n4, ac4, rg4, V14, V24, I4, J4, I24, J24, Or.inl ⟨rfl, rfl, rfl⟩, k3, k4, k5, kx _ _ _ k6, kr _ _ _ k7⟩
end JT2
