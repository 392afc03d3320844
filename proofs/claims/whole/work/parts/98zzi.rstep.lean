/-! ===== laying a board: one side of one tile, in the reference ===== -/
/-- the reference under way -/
def rr_t (p : Nat) (cs : Nat → Nat) (n : Nat) (a : Nat → Nat → Nat) (rg : Nat → Nat) (V1 V2 : Nat → Nat → Nat) (tb : Nat → Nat) (I : Nat → Nat → Int32) (J : Nat → Nat → Int64) : Prop := rv_st p cs n V1 V2 tb I J ∧ (∀ x, x < n → I 8 x = nI (rg x) ∧ I 9 x = nI (ln p a x) ∧ (∀ y, y < p → I 7 (8 * x + y) = pl_e (a x y)) ∧ ∀ y, p ≤ y → y < 8 → I 7 (8 * x + y) = -1) ∧ wy p n a (J 14)
/-- what the reference leaves as it was -/
def rr_fr (n : Nat) (I I' : Nat → Nat → Int32) (J J' : Nat → Nat → Int64) : Prop := (∀ q k, ¬ (7 ≤ q ∧ q ≤ 12) → q ≠ 21 → ¬ (q = 0 ∧ k = 21) → I' q k = I q k) ∧ (∀ q x, 10 ≤ q → q ≤ 12 → x < n → I' q x = I q x) ∧ ∀ q, ¬ (14 ≤ q ∧ q ≤ 18) → J' q = J q
theorem rr_congr {p n : Nat} {cs : Nat → Nat} {a a' : Nat → Nat → Nat} {rg : Nat → Nat} {V1 V2 : Nat → Nat → Nat} {tb : Nat → Nat} {I : Nat → Nat → Int32} {J : Nat → Nat → Int64} (h : rr_t p cs n a rg V1 V2 tb I J) (e : ∀ x y, x < n → y < p → a' x y = a x y) : rr_t p cs n a' rg V1 V2 tb I J := by
  refine ⟨h.1, fun x hx => ?_, h.2.2.1, fun x h0 hx => ?_⟩
  · obtain ⟨b1, b2, b3, b4⟩ := h.2.1 x hx
    refine ⟨b1, b2.trans (congrArg nI (sm_congr (fun y hy => ?_))), fun y hy => ?_, b4⟩
    · rw [e x y hx hy]
    · rw [e x y hx hy]; exact b3 y hy
  · rw [h.2.2.2 x h0 hx]
    refine ws_congr (fun y hy => ?_)
    unfold wg
    rw [e x y hx hy]
section RR1
variable {d p n t s : Nat} {a : Nat → Nat → Nat} {rg : Nat → Nat} {cs : Nat → Nat} {V1 V2 : Nat → Nat → Nat} {tb : Nat → Nat} {I : Nat → Nat → Int32} {J : Nat → Nat → Int64} {x2 g : Int32}
theorem rr_skip (h : rr_t p cs n a rg V1 V2 tb I J) (ht : t < n) (hs : s < p) (ha : a t s < 2000) {v : Option Value} {τ : ij_S} (hg : rk_go (rk_call (d + 2)) 28 (12, [some (.ref 0), none, some (.int x2), some (.int g), some (.int (nI t)), some (.int (nI (s + 1))), none], [], (rk_R, I, J)) v τ) : rk_go (rk_call (d + 2)) 28 (12, [some (.ref 0), none, some (.int x2), some (.int g), some (.int (nI t)), some (.int (nI s)), none], [], (rk_R, I, J)) v τ := by
  obtain ⟨p8, n2, h1, _⟩ := h.1
  have e8 : 8 * nI t + nI s = nI (8 * t + s) := lr_8' t s
  rw [← nI_1] at hg
  refine rp_rings_12_2 I J _ _ _ _ (by rw [h1]; exact nI_ge hs (by omega)) (by rw [e8]; exact vp_in_nI (by omega) (by decide)) ?_ hg
  rw [e8, nI_clamp (by omega), ((h.2.1 t ht).2.2.1 s hs)]
  exact fun z => (pl_e_m1.mp z) ha
theorem rr_old (h : rr_t p cs n a rg V1 V2 tb I J) (ht : t < n) (hs : s < p) {u : Nat} (hu : u < n) (htu : t < u) (ha : ¬ a t s < 2000) (hau : ¬ a u s < 2000) (hup : ∀ x y, x < n → y < p → a x y = u → ¬ u < x) (he : rv_e p (V1 u) (V2 u) (rv_w1 p cs V1 t s) (rv_w2 p cs V2 t s)) {a' : Nat → Nat → Nat} (v1 : a' t s = u) (v2 : a' u s = t) (v3 : ∀ x y, x < n → y < p → ¬ (x = t ∧ y = s) → ¬ (x = u ∧ y = s) → a' x y = a x y) : ∃ (I' : Nat → Nat → Int32) (J' : Nat → Nat → Int64), (∀ v τ, rk_go (rk_call (d + 2)) 28 (12, [some (.ref 0), none, some (.int x2), some (.int g), some (.int (nI t)), some (.int (nI (s + 1))), none], [], (rk_R, I', J')) v τ → rk_go (rk_call (d + 2)) 28 (12, [some (.ref 0), none, some (.int x2), some (.int g), some (.int (nI t)), some (.int (nI s)), none], [], (rk_R, I, J)) v τ) ∧ rr_t p cs n a' rg V1 V2 tb I' J' ∧ rr_fr n I I' J J' := by
  obtain ⟨p8, n2, h1, h21, han, hv⟩ := h.1
  obtain ⟨J1, j1, hgo⟩ := rs_rg_old (d := d) (x2 := x2) (g := g) h.1 ht hs (by rw [(h.2.1 t ht).2.2.1 s hs]; exact pl_e_m1.mpr ha) hu he
  refine ⟨_, _, hgo, ⟨⟨p8, n2, ?_, ?_, ?_, ?_⟩, fun x hx => ?_, ?_, fun x h0 hx => ?_⟩, fun q k hq h2 h3 => ?_, fun q x q1 q2 hx => ?_, fun q hq => ?_⟩
  · rw [ij_u_ne (by decide), ij_u_ne (by decide), ij_u_ne (by decide)]; exact h1
  · rw [ij_u_ne (by decide), ij_u_ne (by decide), ij_u_ne (by decide)]; exact h21
  · intro i j hi hj
    rw [ij_u_ne (by decide), ij_u_ne (by decide), j1 19 (by decide) (by decide), j1 20 (by decide) (by decide)]
    exact han i j hi hj
  · refine rv_fr hv ?_ ?_ ?_
    · rw [ij_u_ne (by decide), ij_u_ne (by decide), ij_u_ne (by decide)]
    · rw [ij_u_ne (by decide), j1 15 (by decide) (by decide)]
    · rw [ij_u_ne (by decide), j1 16 (by decide) (by decide)]
  · obtain ⟨b1, b2, b3, b4⟩ := h.2.1 x hx
    refine ⟨?_, ?_, fun y hy => ?_, fun y hy hy8 => ?_⟩
    · rw [ij_u_ne (by decide), ij_u_ne (by decide), ij_u_ne (by decide)]; exact b1
    · by_cases e : x = u
      · subst e
        rw [ij_u_same, b2, nI_1]
        refine congrArg nI ?_
        unfold ln
        have q := sm_upd (g := fun y => if a x y < x then 1 else 0) (g' := fun y => if a' x y < x then 1 else 0) hs (fun k hk hks => by
          show (if a' x k < x then 1 else 0) = if a x k < x then 1 else 0
          rw [v3 x k hx hk (fun z => hks z.2) (fun z => hks z.2)]) (by
          show (if a x s < x then 1 else 0) = 0
          rw [if_neg (by omega)])
        have q' : sm (fun y => if a' x y < x then 1 else 0) p = sm (fun y => if a x y < x then 1 else 0) p + (if a' x s < x then 1 else 0) := q
        rw [q', v2, if_pos htu]
      · rw [ij_u_other _ _ _ _ e, ij_u_ne (by decide), ij_u_ne (by decide), b2]
        refine congrArg nI (sm_congr (fun y hy => ?_))
        by_cases e2 : x = t ∧ y = s
        · rw [e2.1, e2.2, v1, if_neg (by omega), if_neg (by omega)]
        · rw [v3 x y hx hy e2 (fun z => e z.1)]
    · rw [ij_u_ne (by decide)]
      by_cases e2 : x = u ∧ y = s
      · rw [e2.1, e2.2, ij_u_same, v2]
        exact (if_pos (show t < 2000 by omega)).symm
      · rw [ij_u_other _ _ _ _ (show 8 * x + y ≠ 8 * u + s by omega)]
        by_cases e1 : x = t ∧ y = s
        · rw [e1.1, e1.2, ij_u_same, v1]
          exact (if_pos (show u < 2000 by omega)).symm
        · rw [ij_u_other _ _ _ _ (show 8 * x + y ≠ 8 * t + s by omega), v3 x y hx hy e1 e2]
          exact b3 y hy
    · rw [ij_u_ne (by decide), ij_u_other _ _ _ _ (by omega), ij_u_other _ _ _ _ (by omega)]
      exact b4 y hy hy8
  · rw [ij_u_other _ _ _ _ (show 0 ≠ u by omega), j1 14 (by decide) (by decide)]
    exact h.2.2.1
  · have hw : ∀ z, z ≠ u → ij_u J1 14 u (J 14 u + J 14 t) 14 z = J 14 z := fun z hz => by rw [ij_u_other _ _ _ _ hz, j1 14 (by decide) (by decide)]
    by_cases e : x = u
    · subst e
      have q := ws_upd (g := wg a (J 14) x) (g' := wg a' (ij_u J1 14 x (J 14 x + J 14 t) 14) x) hs (fun k hk hks => by
        unfold wg
        rw [v3 x k hx hk (fun z => hks z.2) (fun z => hks z.2)]
        by_cases l : a x k < x
        · rw [if_pos l, if_pos l, hw _ (by omega)]
        · rw [if_neg l, if_neg l]) (by
        unfold wg
        rw [if_neg (by omega)])
      rw [q, ij_u_same, ← h.2.2.2 x h0 hx]
      unfold wg
      rw [v2, if_pos htu, hw t (by omega)]
    · rw [hw x e, h.2.2.2 x h0 hx]
      refine ws_congr (fun y hy => ?_)
      unfold wg
      by_cases e2 : x = t ∧ y = s
      · rw [e2.1, e2.2, v1, if_neg (by omega), if_neg (by omega)]
      · rw [v3 x y hx hy e2 (fun z => e z.1)]
        by_cases l : a x y < x
        · rw [if_pos l, if_pos l, hw]
          exact fun z => hup x y hx hy z (z ▸ l)
        · rw [if_neg l, if_neg l]
  · rw [ij_u_ne (by omega), ij_u_ne (by omega), ij_u_ne (by omega)]
  · rw [ij_u_ne (by omega), ij_u_ne (by omega), ij_u_ne (by omega)]
  · rw [ij_u_ne (by omega), j1 q (by omega) (by omega)]
theorem rr_full (h : rr_t p cs 2000 a rg V1 V2 tb I J) (ht : t < 2000) (hs : s < p) (ha : ¬ a t s < 2000) (hno : ∀ u, u < 2000 → ¬ rv_e p (V1 u) (V2 u) (rv_w1 p cs V1 t s) (rv_w2 p cs V2 t s)) : ∃ J1 : Nat → Nat → Int64, (∀ q, q ≠ 17 → q ≠ 18 → J1 q = J q) ∧ rk_go (rk_call (d + 2)) 28 (12, [some (.ref 0), none, some (.int x2), some (.int g), some (.int (nI t)), some (.int (nI s)), none], [], (rk_R, I, J)) (some (.int 0)) (rk_R, I, J1) :=
  rs_rg_full h.1 ht hs (by rw [(h.2.1 t ht).2.2.1 s hs]; exact pl_e_m1.mpr ha) hno
theorem rr_new (h : rr_t p cs n a rg V1 V2 tb I J) (hn : n < 2000) (ht : t < n) (hs : s < p) (hc : pl_c p n a) (ha : ¬ a t s < 2000) (hno : ∀ u, u < n → ¬ rv_e p (V1 u) (V2 u) (rv_w1 p cs V1 t s) (rv_w2 p cs V2 t s)) {a' : Nat → Nat → Nat} (v1 : a' t s = n) (v2 : ∀ y, y < p → a' n y = if y = s then t else 2000) (v3 : ∀ x y, x < n → y < p → ¬ (x = t ∧ y = s) → a' x y = a x y) : ∃ (I' : Nat → Nat → Int32) (J' : Nat → Nat → Int64) (tb' : Nat → Nat), (∀ v τ, rk_go (rk_call (d + 2)) 28 (12, [some (.ref 0), none, some (.int x2), some (.int (nI (rg t + 1))), some (.int (nI t)), some (.int (nI (s + 1))), none], [], (rk_R, I', J')) v τ → rk_go (rk_call (d + 2)) 28 (12, [some (.ref 0), none, some (.int x2), some (.int (nI (rg t + 1))), some (.int (nI t)), some (.int (nI s)), none], [], (rk_R, I, J)) v τ) ∧ rr_t p cs (n + 1) a' (nb_rg rg n t) (rv_u V1 n (rv_w1 p cs V1 t s)) (rv_u V2 n (rv_w2 p cs V2 t s)) tb' I' J' ∧ (I' 10 n = I 10 t ^^^ (1 <<< (I 22 s &&& 31)) ∧ I' 11 n = nI t ∧ I' 12 n = nI s) ∧ rr_fr n I I' J J' := by
  have p8 := h.1.1
  obtain ⟨I', J', tb', hgo, c1, ⟨d1, d2, d3, d4, d5, d6⟩, ⟨f1, f2, f3⟩, e1, e2⟩ := rs_rg_new (d := d) (x2 := x2) (g := nI (rg t + 1)) h.1 hn ht hs (by rw [(h.2.1 t ht).2.2.1 s hs]; exact pl_e_m1.mpr ha) hno
  have hJ : ∀ z, z < n → J' 14 z = J 14 z := fun z hz => e2 14 z (by omega) (by omega) (by omega) (by omega)
  refine ⟨I', J', tb', hgo, ⟨c1, fun x hx => ?_, ?_, fun x h0 hx => ?_⟩, ⟨d3, d4, d5⟩, fun q k hq h2 h3 => ?_, fun q x q1 q2 hx => ?_, fun q hq => ?_⟩
  · unfold nb_rg ln
    by_cases e : x = n
    · subst e
      rw [if_pos rfl]
      refine ⟨d1, d2.trans (congrArg nI ?_), fun y hy => ?_, fun y hy hy8 => f3 y hy8 (by omega)⟩
      · have q := sm_upd (g := fun _ => 0) (g' := fun y => if a' x y < x then 1 else 0) hs (fun k hk hks => by
          show (if a' x k < x then 1 else 0) = 0
          rw [v2 k hk, if_neg hks, if_neg (by omega)]) rfl
        have q' : sm (fun y => if a' x y < x then 1 else 0) p = sm (fun _ => 0) p + (if a' x s < x then 1 else 0) := q
        rw [q', sm_zero, v2 s hs, if_pos rfl, if_pos ht]
      · rw [v2 y hy]
        by_cases ey : y = s
        · rw [if_pos ey, ey, f2]
          exact (if_pos (show t < 2000 by omega)).symm
        · rw [if_neg ey, f3 y (by omega) ey]
          exact (if_neg (by decide)).symm
    · have hx' : x < n := by omega
      obtain ⟨b1, b2, b3, b4⟩ := h.2.1 x hx'
      rw [if_neg e]
      refine ⟨(e1 8 x (by omega) (by omega) (by omega) (by omega)).trans b1, ?_, fun y hy => ?_, fun y hy hy8 => (e1 7 (8 * x + y) (by omega) (by omega) (by omega) (by omega)).trans (b4 y hy hy8)⟩
      · rw [e1 9 x (by omega) (by omega) (by omega) (by omega), b2]
        refine congrArg nI (sm_congr (fun y hy => ?_))
        by_cases e2 : x = t ∧ y = s
        · rw [e2.1, e2.2, v1, if_neg (by omega), if_neg (by omega)]
        · rw [v3 x y hx' hy e2]
      · by_cases e2 : x = t ∧ y = s
        · rw [e2.1, e2.2, v1, f1]
          exact (if_pos hn).symm
        · rw [v3 x y hx' hy e2, e1 7 (8 * x + y) (by omega) (by omega) (by omega) (by omega)]
          exact b3 y hy
  · rw [hJ 0 (by omega)]; exact h.2.2.1
  · by_cases e : x = n
    · subst e
      have q := ws_upd (g := fun _ => 0) (g' := wg a' (J' 14) x) hs (fun k hk hks => by
        unfold wg
        rw [v2 k hk, if_neg hks, if_neg (by omega)]) rfl
      rw [q, d6, ws_0, Int64.zero_add]
      unfold wg
      rw [v2 s hs, if_pos rfl, if_pos ht, hJ t ht]
    · have hx' : x < n := by omega
      rw [hJ x hx', h.2.2.2 x h0 hx']
      refine ws_congr (fun y hy => ?_)
      unfold wg
      by_cases e2 : x = t ∧ y = s
      · rw [e2.1, e2.2, v1, if_neg (by omega), if_neg (by omega)]
      · rw [v3 x y hx' hy e2]
        by_cases l : a x y < x
        · rw [if_pos l, if_pos l, hJ _ (by omega)]
        · rw [if_neg l, if_neg l]
  · exact e1 q k h3 (by omega) (by omega) h2
  · exact e1 q x (by omega) (by omega) (by omega) (by omega)
  · funext k
    exact e2 q k (by omega) (by omega) (by omega) (by omega)
end RR1
