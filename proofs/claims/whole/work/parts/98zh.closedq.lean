/-! ===== closed, first: both answer alike ===== -/
def lk_closed (R : lk_Rl) : Prop := ∀ b I J I2 J2, R b I J I2 J2 → ∃ p cs, (3 ≤ p ∧ p ≤ 8 ∧ ∀ j, j < p → cs j < 10 ∧ cs j ≠ 1) ∧ (I 6 8 = nI p ∧ ∀ j, j < p → I 7 j = nI (cs j)) ∧ (I2 0 1 = nI p ∧ ∀ j, j < p → I2 1 j = nI (cs j)) ∧ cb_sk p cs I ∧ ∀ I' J' I2', cb_fK I I' → (∀ q, q ≠ 34 → q ≠ 35 → J' q = J q) → (∀ q k, ¬ (29 ≤ q ∧ q ≤ 34) → ¬ (q = 0 ∧ (k = 0 ∨ 52 ≤ k ∧ k ≤ 58)) → I2' q k = I2 q k) → cb_sk p cs I' → R b I' J' I2' J2
section LC1
variable {d n : Nat} {b : Bool} {I : Nat → Nat → Int32} {J : Nat → Nat → Int64} {X : ij_R}
theorem lx_ncs_y (h1 : 1 ≤ n) (hn : n < 7) : lk_cx2 X (d + 1) 144 [.ref 0, .int (nI n)] (xk_R b, I, J) (.inl none) (xk_R b, I, J) :=
  lx_of (by decide) (Nat.le_of_ble_eq_true rfl) (xp_X10_needClosedSize_0_1 I J (nI n) (nI_nlt (b := 1) h1 (by omega)) (nI_le (b := 6) (by omega) (by decide)))
theorem lx_ncs_n {x : Int32} (hx : x < 1 ∨ 6 < x) : lk_cx2 X (d + 1) 144 [.ref 0, .int x] (xk_R b, I, J) (.inr "java/lang/IllegalArgumentException") (xk_R b, I, J) := by
  refine lx_of (by decide) (Nat.le_of_ble_eq_true rfl) ?_
  by_cases h : x < 1
  · exact xp_X10_needClosedSize_0_0 I J x h (by decide)
  · exact xp_X10_needClosedSize_0_2 I J x h (Int32.not_le.mpr (hx.resolve_left h)) (by decide)
theorem lx_answer {w : Nat} (hn : n < 7) (hw : w < 5) : lk_cx1 X (d + 1) 79 [.ref 22, .int (nI n), .int (nI w)] (xk_R b, I, J) (some (.int (I 38 (5 * n + w)))) (xk_R b, I, J) := by
  have q := xp_X5_answer_0_2 (C := ik_cr xk_P xk_M xk_Y xk_K X d) (b := b) I J (nI n) (nI w)
  rw [cb_5, nI_clamp (by omega)] at q
  exact ik_cr_of (Nat.le_of_ble_eq_true rfl) (q (nI_pos (by omega)) (by decide) (nI_ge (b := 35) (by omega) (by decide)) (vp_in_nI (by omega) (by decide)))
theorem cb_size {x : Int32} (h1 : ¬ x < 1) (h6 : ¬ 6 < x) : ∃ n, 1 ≤ n ∧ n < 7 ∧ x = nI n := by
  obtain ⟨n, hn, rfl⟩ := nI_of2 (x := x) (M := 6) (n := 6) (by decide) (fun q => h1 (by
    rw [Int32.lt_iff_toInt_lt] at q ⊢
    have : (0 : Int32).toInt = 0 := by decide
    have : (1 : Int32).toInt = 1 := by decide
    omega)) (Int32.not_lt.mp h6)
  refine ⟨n, ?_, by omega, rfl⟩
  have := Nat.not_lt.mp (fun q : n < 1 => h1 (nI_lt (b := 1) q (by decide)))
  exact this
end LC1
theorem lq_closed {d : Nat} {R : lk_Rl} (h : lk_closed R) : lk_q_closed xw_X (d + 18) R := by
  intro x y b I J I2 J2 hR
  obtain ⟨p, cs, ⟨hp3, hp8, hcs⟩, ⟨hx1, hx2⟩, ⟨hr1, hr2⟩, hsk, hk⟩ := h b I J I2 J2 hR
  have same : ∀ v, R b I J (ij_u (ij_u I2 0 0 0) 0 0 v) J2 := fun v => hk I J _ (fun _ _ _ _ _ _ _ _ => rfl) (fun _ _ _ => rfl) (fun q k a1 a2 => by rw [lb_u_at (by omega), lb_u_at (by omega)]) hsk
  by_cases hy : y < 0 ∨ 4 < y
  · refine Or.inr (Or.inr ⟨0, b, I, J, ij_u (ij_u I2 0 0 0) 0 0 1, J2, ?_, ?_, rfl, same 1⟩)
    · refine lx_of (by decide) (Nat.le_of_ble_eq_true rfl) ?_
      by_cases q : y < 0
      · exact xp_X10_closed_0_0 I J x y q (by decide)
      · refine xp_X10_closed_0_2 I J x y q (fun z => ?_) (by decide)
        have h4 := hy.resolve_left q
        rw [Int32.lt_iff_toInt_lt] at h4 z
        have : (4 : Int32).toInt = 4 := by decide
        have : (5 : Int32).toInt = 5 := by decide
        omega
    · have rr := rs_right (d := d + 17) (I := ij_u I2 0 0 0) (J := J2) 0 1 rfl (by decide)
      refine ij_cr_of (Nat.le_of_ble_eq_true rfl) ?_
      by_cases q : y < 0
      · exact rp_closed_0_0 I2 J2 x y q 0 rr (rp_closed_24_0 _ J2 x y 0 rfl)
      · exact rp_closed_0_1 I2 J2 x y q (hy.resolve_left q) 0 rr (rp_closed_24_0 _ J2 x y 0 rfl)
  · have hy0 : ¬ y < 0 := fun q => hy (Or.inl q)
    have hy4 : ¬ 4 < y := fun q => hy (Or.inr q)
    obtain ⟨w, hw, rfl⟩ := nI_of2 (M := 4) (n := 4) (by decide) hy0 (Int32.not_lt.mp hy4)
    have rr := rs_right (d := d + 17) (I := ij_u I2 0 0 0) (J := J2) 1 1 rfl (by decide)
    have hy5 : nI w < 5 := nI_lt (b := 5) (by omega) (by decide)
    by_cases hx : x < 1 ∨ 6 < x
    · refine Or.inr (Or.inl ⟨0, b, I, J, ij_u (ij_u I2 0 0 0) 0 0 2, J2, ?_, ?_, rfl, same 2⟩)
      · exact lx_of (by decide) (Nat.le_of_ble_eq_true rfl) (xp_X10_closed_0_1_t I J x (nI w) hy0 hy5 (by decide) (lx_ncs_n hx))
      · have r2 := rs_right (d := d + 17) (I := ij_u I2 0 0 0) (J := J2) 0 2 rfl (by decide)
        refine ij_cr_of (Nat.le_of_ble_eq_true rfl) (rp_closed_0_2 I2 J2 x (nI w) hy0 hy4 1 rr ?_)
        by_cases q : x < 1
        · exact rp_closed_24_1 _ J2 x (nI w) 1 (by decide) q 0 r2 (rp_closed_48_1 _ J2 x (nI w) 0 rfl)
        · exact rp_closed_24_2 _ J2 x (nI w) 1 (by decide) q (hx.resolve_left q) 0 r2 (rp_closed_48_1 _ J2 x (nI w) 0 rfl)
    · have hxa : ¬ x < 1 := fun q => hx (Or.inl q)
      have hxb : ¬ 6 < x := fun q => hx (Or.inr q)
      obtain ⟨n, hn1, hn, rfl⟩ := cb_size hxa hxb
      obtain ⟨I', J', m1, m2, m3, m4, m5⟩ := lx_makeKnown (d := d) (b := b) (cs := cs) hn1 hn hp3 hp8 hcs hx1 hx2 hsk J
      obtain ⟨I2', s1, s2, s3⟩ := rs_seeks (d := d + 13) (J := J2) (I := ij_u I2 0 0 0) (cs := cs) hn1 hn hp3 hp8 hcs hr1 hr2
      have fr2 : ∀ K : Nat → Nat → Int32, (∀ q, q ≠ 30 → q ≠ 32 → q ≠ 33 → K q = I2' q) → ∀ q k, ¬ (29 ≤ q ∧ q ≤ 34) → ¬ (q = 0 ∧ (k = 0 ∨ 52 ≤ k ∧ k ≤ 58)) → K q k = I2 q k := fun K hK q k a1 a2 => by
        rw [hK q (by omega) (by omega) (by omega), s1 q k a1 (by omega), lb_u_at (by omega)]
      have th : ∀ K : Nat → Nat → Int32, (∀ q, q ≠ 30 → q ≠ 32 → q ≠ 33 → K q = I2' q) → K 0 0 = 0 := fun K hK => by
        rw [hK 0 (by decide) (by decide) (by decide), s1 0 0 (by omega) (by omega)]
        rfl
      have cls : lk_cx2 xw_X (d + 18) 131 [.ref 0, .int (nI n), .int (nI w)] (xk_R b, I, J) (.inl (some (.int (I' 38 (5 * n + w))))) (xk_R b, I', J') := lx_of (by decide) (Nat.le_of_ble_eq_true rfl) (xp_X10_closed_0_1 I J (nI n) (nI w) hy0 hy5 (by decide) (lx_ncs_y hn1 hn) (xp_X10_closed_22_0 I J _ _ m1 (xp_X10_closed_30_0 I' J' _ _ _ (lx_answer hn (by omega)) (xp_X10_closed_39_0 I' J' _))))
      have ref : ∀ u v τ, rk_call (d + 18) 63 [.ref 0, .int (nI n)] (rk_R, ij_u I2 0 0 0, J2) (some (.int u)) (rk_R, I2', J2) → rk_go (rk_call (d + 18)) 66 (58, [some (.ref 0), none, some (.int (nI w))], [.int u], (rk_R, I2', J2)) v τ → lk_cr1 (d + 19) 66 [.ref 0, .int (nI n), .int (nI w)] (rk_R, I2, J2) v τ := fun u v τ hs hg => ij_cr_of (Nat.le_of_ble_eq_true rfl) (rp_closed_0_2 I2 J2 (nI n) (nI w) hy0 hy4 1 rr (rp_closed_24_3 _ J2 (nI n) (nI w) 1 (by decide) hxa hxb 1 (rs_right (d := d + 17) (I := ij_u I2 0 0 0) (J := J2) 1 2 rfl (by decide)) (rp_closed_48_0 _ J2 (nI n) (nI w) 1 (by decide) u hs hg)))
      have fin : ∀ (v : Int32) (K : Nat → Nat → Int32), (∀ q, q ≠ 30 → q ≠ 32 → q ≠ 33 → K q = I2' q) → I' 38 (5 * n + w) = v → lk_cr1 (d + 19) 66 [.ref 0, .int (nI n), .int (nI w)] (rk_R, I2, J2) (some (.int v)) (rk_R, K, J2) → ∃ (w' : Int32) (b' : Bool) (I'' : Nat → Nat → Int32) (J'' : Nat → Nat → Int64) (I2'' : Nat → Nat → Int32) (J2'' : Nat → Nat → Int64), lk_cx2 xw_X (d + 18) 131 [.ref 0, .int (nI n), .int (nI w)] (xk_R b, I, J) (.inl (some (.int w'))) (xk_R b', I'', J'') ∧ lk_cr1 (d + 18 + 1) 66 [.ref 0, .int (nI n), .int (nI w)] (rk_R, I2, J2) (some (.int w')) (rk_R, I2'', J2'') ∧ I2'' 0 0 = 0 ∧ R b' I'' J'' I2'' J2'' := fun v K hK e hr => ⟨v, b, I', J', K, J2, by rw [← e]; exact cls, hr, th K hK, hk I' J' K m4 m5 (fr2 K hK) m2⟩
      left
      by_cases hT : cb_T2 n cs p ≤ 300000
      · obtain ⟨k1, ⟨V1, V2, V3, V4⟩, k3, k4⟩ := s2 hT
        obtain ⟨a0, a1, a2, a4, a3⟩ := m3.1 hT
        rcases (show w = 0 ∨ w = 1 ∨ w = 2 ∨ w = 3 ∨ w = 4 by omega) with rfl | rfl | rfl | rfl | rfl
        · exact fin _ I2' (fun _ _ _ _ => rfl) a0 (ref 1 _ _ k1 (by rw [← V1]; exact rp_closed_58_1 I2' J2 (nI 0) 1 (by decide) (by decide)))
        · exact fin _ I2' (fun _ _ _ _ => rfl) a1 (ref 1 _ _ k1 (by rw [← V2]; exact rp_closed_58_2 I2' J2 (nI 1) 1 (by decide) (by decide)))
        · exact fin _ I2' (fun _ _ _ _ => rfl) a2 (ref 1 _ _ k1 (by rw [← V3]; exact rp_closed_58_3 I2' J2 (nI 2) 1 (by decide) (by decide)))
        · cases hf : (cb_lv n p cs p []).find? (cb_k2 n p cs) with
          | none =>
            rw [hf] at V4 a3
            exact fin (-1) I2' (fun _ _ _ _ => rfl) a3.2 (ref 1 _ _ k1 (rp_closed_58_4 I2' J2 (nI 3) 1 (by decide) (by decide) V4))
          | some af =>
            rw [hf] at V4 a3
            have hlf := (cb_lv_leaf hp3).mp (List.mem_of_find?_eq_some hf)
            have hk2 := cb_B_iff.mp (show cb_B (cb_cn n p af ∧ cb_sm n p cs af) = true from List.find?_some (p := cb_k2 n p cs) hf)
            obtain ⟨K, h1, h2⟩ := rs_handles (d := d + 15) (J := J2) (I := I2') (a := af) hn1 hn hp3 hp8 hcs hlf.1 hlf.2.1 hk2.1 hk2.2 k4 V4.2
            exact fin _ K h2 a3.2.1 (ref 1 _ _ k1 (rp_closed_58_5 I2' J2 (nI 3) 1 (by decide) (by decide) (by rw [V4.1]; decide) _ h1 (rp_closed_122_0 K J2 _)))
        · exact fin _ I2' (fun _ _ _ _ => rfl) a4 (ref 1 _ _ k1 (by rw [← k3]; exact rp_closed_58_0 I2' J2 (nI 4) 1 (by decide) (by decide)))
      · exact fin (-2) I2' (fun _ _ _ _ => rfl) ((m3.2 (by omega)).1 w (by omega)) (ref 0 _ _ (s3 (by omega)) (rp_closed_58_6 I2' J2 (nI w) 0 rfl))
theorem lq_first {d : Nat} {R : lk_Rl} (h : lk_closed R) : lk_q_first xw_X (d + 18) R := by
  intro x y t b I J I2 J2 hR
  obtain ⟨p, cs, ⟨hp3, hp8, hcs⟩, ⟨hx1, hx2⟩, ⟨hr1, hr2⟩, hsk, hk⟩ := h b I J I2 J2 hR
  have same : ∀ v, R b I J (ij_u (ij_u I2 0 0 0) 0 0 v) J2 := fun v => hk I J _ (fun _ _ _ _ _ _ _ _ => rfl) (fun _ _ _ => rfl) (fun q k a1 a2 => by rw [lb_u_at (by omega), lb_u_at (by omega)]) hsk
  by_cases hx : x < 1 ∨ 6 < x
  · refine Or.inr (Or.inl ⟨0, b, I, J, ij_u (ij_u I2 0 0 0) 0 0 2, J2, ?_, ?_, rfl, same 2⟩)
    · exact lx_of (by decide) (Nat.le_of_ble_eq_true rfl) (xp_X10_first_0_0_t I J x y t (by decide) (lx_ncs_n hx))
    · have r2 := rs_right (d := d + 17) (I := ij_u I2 0 0 0) (J := J2) 0 2 rfl (by decide)
      refine ij_cr_of (Nat.le_of_ble_eq_true rfl) ?_
      by_cases q : x < 1
      · exact rp_first_0_0 I2 J2 x y t q 0 r2 (rp_first_26_1 _ J2 x y t 0 rfl)
      · exact rp_first_0_1 I2 J2 x y t q (hx.resolve_left q) 0 r2 (rp_first_26_1 _ J2 x y t 0 rfl)
  · have hxa : ¬ x < 1 := fun q => hx (Or.inl q)
    have hxb : ¬ 6 < x := fun q => hx (Or.inr q)
    obtain ⟨n, hn1, hn, rfl⟩ := cb_size hxa hxb
    obtain ⟨I', J', m1, m2, m3, m4, m5⟩ := lx_makeKnown (d := d) (b := b) (cs := cs) hn1 hn hp3 hp8 hcs hx1 hx2 hsk J
    obtain ⟨I2', s1, s2, s3⟩ := rs_seeks (d := d + 13) (J := J2) (I := ij_u I2 0 0 0) (cs := cs) hn1 hn hp3 hp8 hcs hr1 hr2
    have fr2 : ∀ v, ∀ q k, ¬ (29 ≤ q ∧ q ≤ 34) → ¬ (q = 0 ∧ (k = 0 ∨ 52 ≤ k ∧ k ≤ 58)) → ij_u I2' 0 0 v q k = I2 q k := fun v q k a1 a2 => by
      rw [lb_u_at (by omega), s1 q k a1 (by omega), lb_u_at (by omega)]
    have th : I2' 0 0 = 0 := by rw [s1 0 0 (by omega) (by omega)]; rfl
    have i21 : I2' 0 1 = nI p := by rw [s1 0 1 (by omega) (by omega)]; exact hr1
    have ref : ∀ u v τ, rk_call (d + 18) 63 [.ref 0, .int (nI n)] (rk_R, ij_u I2 0 0 0, J2) (some (.int u)) (rk_R, I2', J2) → rk_go (rk_call (d + 18)) 67 (37, [some (.ref 0), some (.int (nI n)), some (.int y), some (.int t)], [.int u, .ref 0], (rk_R, I2', J2)) v τ → lk_cr1 (d + 19) 67 [.ref 0, .int (nI n), .int y, .int t] (rk_R, I2, J2) v τ := fun u v τ hs hg => ij_cr_of (Nat.le_of_ble_eq_true rfl) (rp_first_0_2 I2 J2 (nI n) y t hxa hxb 1 (rs_right (d := d + 17) (I := ij_u I2 0 0 0) (J := J2) 1 2 rfl (by decide)) (rp_first_26_0 _ J2 (nI n) y t 1 (by decide) u hs hg))
    -- all that isn't there
    have no : lk_cr1 (d + 19) 67 [.ref 0, .int (nI n), .int y, .int t] (rk_R, I2, J2) (some (.int 0)) (rk_R, ij_u I2' 0 0 1, J2) → (∃ I'' J'', lk_cx2 xw_X (d + 18) 132 [.ref 0, .int (nI n), .int y, .int t] (xk_R b, I, J) (.inr "java/util/NoSuchElementException") (xk_R b, I'', J'') ∧ (I'' = I ∧ J'' = J ∨ I'' = I' ∧ J'' = J')) → ∃ (w : Int32) (b' : Bool) (I'' : Nat → Nat → Int32) (J'' : Nat → Nat → Int64) (I2'' : Nat → Nat → Int32) (J2'' : Nat → Nat → Int64), lk_cx2 xw_X (d + 18) 132 [.ref 0, .int (nI n), .int y, .int t] (xk_R b, I, J) (.inr "java/util/NoSuchElementException") (xk_R b', I'', J'') ∧ lk_cr1 (d + 18 + 1) 67 [.ref 0, .int (nI n), .int y, .int t] (rk_R, I2, J2) (some (.int w)) (rk_R, I2'', J2'') ∧ I2'' 0 0 = 1 ∧ R b' I'' J'' I2'' J2'' := by
      rintro hr ⟨I'', J'', hc, e⟩
      refine ⟨0, b, I'', J'', ij_u I2' 0 0 1, J2, hc, hr, rfl, ?_⟩
      rcases e with ⟨e1, e2⟩ | ⟨e1, e2⟩
      · subst e1 e2
        exact hk _ _ _ (fun _ _ _ _ _ _ _ _ => rfl) (fun _ _ _ => rfl) (fr2 1) hsk
      · subst e1 e2
        exact hk _ _ _ m4 m5 (fr2 1) m2
    have rno := rs_right (d := d + 17) (I := I2') (J := J2) 0 1 th (by decide)
    have ryes := rs_right (d := d + 17) (I := I2') (J := J2) 1 1 th (by decide)
    -- the class, up to the tile
    have side : ¬ y < 0 ∧ ¬ I 6 8 ≤ y → ∀ o τ, xk_gx (ik_cr xk_P xk_M xk_Y xk_K xw_X (d + 17)) (lk_cx2 xw_X (d + 17)) 132 (xk_co 132 - xk_co 144 - xk_co 142) (18, [some (.ref 0), some (.int (nI n)), some (.int y), some (.int t)], [], (xk_R b, I', J')) o τ → lk_cx2 xw_X (d + 18) 132 [.ref 0, .int (nI n), .int y, .int t] (xk_R b, I, J) o τ := fun hy o τ hg => lx_of (by decide) (Nat.le_of_ble_eq_true rfl) (xp_X10_first_0_0 I J (nI n) y t (by decide) (lx_ncs_y hn1 hn) (xp_X10_first_5_0 I J (nI n) y t (by decide) (lx_needSide_y y hy) (xp_X10_first_10_0 I J _ _ _ m1 hg)))
    have side_n : ¬ (¬ y < 0 ∧ ¬ I 6 8 ≤ y) → lk_cx2 xw_X (d + 18) 132 [.ref 0, .int (nI n), .int y, .int t] (xk_R b, I, J) (.inr "java/util/NoSuchElementException") (xk_R b, I, J) := fun hy => lx_of (by decide) (Nat.le_of_ble_eq_true rfl) (xp_X10_first_0_0 I J (nI n) y t (by decide) (lx_ncs_y hn1 hn) (xp_X10_first_5_0_t I J (nI n) y t (by decide) (lx_needSide_n y hy)))
    have hasF : lk_cx1 xw_X (d + 17) 80 [.ref 22, .int (nI n)] (xk_R b, I', J') (some (.int (if I' 37 n = 0 then 0 else 1))) (xk_R b, I', J') := by
      have cl : (nI n).toNatClampNeg = n := nI_clamp (by omega)
      refine ik_cr_of (Nat.le_of_ble_eq_true rfl) ?_
      by_cases e : I' 37 n = 0
      · rw [if_pos e]
        exact xp_X5_hasFirst_0_2 I' J' _ (nI_pos (by omega)) (by decide) (nI_ge (b := 7) hn (by decide)) (vp_in_nI hn (by decide)) (by rw [cl]; exact e)
      · rw [if_neg e]
        exact xp_X5_hasFirst_0_3 I' J' _ (nI_pos (by omega)) (by decide) (nI_ge (b := 7) hn (by decide)) (vp_in_nI hn (by decide)) (by rw [cl]; exact e)
    -- the class, where there is none
    have none_x : I' 37 n = 0 → ∃ I'' J'', lk_cx2 xw_X (d + 18) 132 [.ref 0, .int (nI n), .int y, .int t] (xk_R b, I, J) (.inr "java/util/NoSuchElementException") (xk_R b, I'', J'') ∧ (I'' = I ∧ J'' = J ∨ I'' = I' ∧ J'' = J') := fun e => by
      by_cases hy : ¬ y < 0 ∧ ¬ I 6 8 ≤ y
      · refine ⟨I', J', side hy _ _ ?_, Or.inr ⟨rfl, rfl⟩⟩
        by_cases ht0 : t < 0
        · exact xp_X10_first_18_0 I' J' _ _ _ ht0 (by decide)
        · by_cases htn : nI n ≤ t
          · exact xp_X10_first_18_1 I' J' _ _ _ ht0 htn (by decide)
          · have hf := hasF
            rw [if_pos e] at hf
            exact xp_X10_first_18_2 I' J' _ _ _ _ ht0 htn hf (xp_X10_first_35_1 I' J' _ _ _ _ rfl (by decide))
      · exact ⟨I, J, side_n hy, Or.inl ⟨rfl, rfl⟩⟩
    by_cases hT : cb_T2 n cs p ≤ 300000
    · obtain ⟨k1, ⟨V1, V2, V3, V4⟩, k3, k4⟩ := s2 hT
      obtain ⟨-, -, -, -, a3⟩ := m3.1 hT
      cases hf : (cb_lv n p cs p []).find? (cb_k2 n p cs) with
      | none =>
        rw [hf] at V4 a3
        exact Or.inr (Or.inr (no (ref 1 _ _ k1 (rp_first_37_1 I2' J2 _ _ _ 1 (by decide) V4 0 rno (rp_first_56_0 _ J2 _ _ _ 0 rfl))) (none_x a3.1)))
      | some af =>
        rw [hf] at V4 a3
        have hlf := (cb_lv_leaf hp3).mp (List.mem_of_find?_eq_some hf)
        have g56 : ∀ v τ, rk_go (rk_call (d + 18)) 67 (56, [some (.ref 0), some (.int (nI n)), some (.int y), some (.int t)], [.int 1], (rk_R, I2', J2)) v τ → lk_cr1 (d + 19) 67 [.ref 0, .int (nI n), .int y, .int t] (rk_R, I2, J2) v τ := fun v τ hg => ref 1 _ _ k1 (rp_first_37_2 I2' J2 _ _ _ 1 (by decide) (by rw [V4.1]; decide) 1 ryes hg)
        by_cases hy : ¬ y < 0 ∧ ¬ I 6 8 ≤ y
        · have hyr : rs_in y (I2' 0 1) := by rw [i21, ← hx1]; exact hy
          have isd := rs_isSide_y (d + 16) I2' J2 y th hyr
          by_cases ht0 : t < 0
          · exact Or.inr (Or.inr (no (g56 _ _ (rp_first_56_1 I2' J2 _ _ _ 1 (by decide) 1 isd (rp_first_64_1 I2' J2 _ _ _ 1 (by decide) ht0 0 rno (rp_first_86_1 _ J2 _ _ 0 rfl)))) ⟨I', J', side hy _ _ (xp_X10_first_18_0 I' J' _ _ _ ht0 (by decide)), Or.inr ⟨rfl, rfl⟩⟩))
          · by_cases htn : nI n ≤ t
            · exact Or.inr (Or.inr (no (g56 _ _ (rp_first_56_1 I2' J2 _ _ _ 1 (by decide) 1 isd (rp_first_64_2 I2' J2 _ _ _ 1 (by decide) ht0 htn 0 rno (rp_first_86_1 _ J2 _ _ 0 rfl)))) ⟨I', J', side hy _ _ (xp_X10_first_18_1 I' J' _ _ _ ht0 htn (by decide)), Or.inr ⟨rfl, rfl⟩⟩))
            · -- it is there
              obtain ⟨s, hs31, rfl⟩ := nI_of hy.1
              obtain ⟨u, hu31, rfl⟩ := nI_of ht0
              have hs : s < p := Nat.not_le.mp (fun q => hy.2 (by rw [hx1]; exact nI_le q (by omega)))
              have hu : u < n := Nat.not_le.mp (fun q => htn (nI_le q (by omega)))
              have q76 := cb_qs n hn
              have hrow := hlf.2.1 s hs
              refine Or.inl ⟨nI (cb_b n af s u), b, I', J', I2', J2, side hy _ _ ?_, g56 _ _ (rp_first_56_1 I2' J2 _ _ _ 1 (by decide) 1 isd (rp_first_64_3 I2' J2 _ _ _ 1 (by decide) ht0 htn 1 ryes ?_)), th, hk I' J' I2' m4 m5 (fun q k a1 a2 => by rw [s1 q k a1 (by omega), lb_u_at (by omega)]) m2⟩
              · have hf := hasF
                rw [if_neg (by rw [a3.1]; decide)] at hf
                refine xp_X10_first_18_2 I' J' _ _ _ _ ht0 htn hf (xp_X10_first_35_0 I' J' _ _ _ _ (nI (cb_b n af s u)) (by decide) (ik_cr_of (Nat.le_of_ble_eq_true rfl) (xp_X5_firstAcross_0_0 I' J' _ _ _ _ (lx_firstPlace (d := d + 15)) ?_)) (xp_X10_first_56_0 I' J' _))
                have q := xp_X5_firstAcross_6_2 (C := ik_cr xk_P xk_M xk_Y xk_K xw_X (d + 16)) (b := b) I' J' (nI ((8 * n + s) * 6 + u)) (nI_pos (by omega)) (by decide) (nI_ge (b := 336) (by omega) (by decide)) (vp_in_nI (by omega) (by decide))
                rw [nI_clamp (by omega), a3.2.2 s u hs hu] at q
                exact q
              · have q := rp_first_86_0 (C := rk_call (d + 18)) I2' J2 (nI s) (nI u) 1 (by decide) (vp_in_nI (by omega) (by decide))
                rw [nI_clamp (by omega), V4.2 s hs, cb_6', nI_clamp (by omega), k4.1.2.2 _ hrow u hu] at q
                exact q (vp_in_nI (by omega) (by decide))
        · have hyr : ¬ rs_in y (I2' 0 1) := by rw [i21, ← hx1]; exact hy
          exact Or.inr (Or.inr (no (g56 _ _ (rp_first_56_1 I2' J2 _ _ _ 1 (by decide) 0 (rs_isSide_n (d + 16) I2' J2 y th hyr) (rp_first_64_0 _ J2 _ _ _ 0 rfl))) ⟨I, J, side_n hy, Or.inl ⟨rfl, rfl⟩⟩))
    · exact Or.inr (Or.inr (no (ref 0 _ _ (s3 (by omega)) (rp_first_37_0 I2' J2 _ _ _ 0 rfl 0 rno (rp_first_56_0 _ J2 _ _ _ 0 rfl))) (none_x (m3.2 (by omega)).2)))
