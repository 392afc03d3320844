/-! ===== feed: both put the same bytes ===== -/
theorem lr_255 : ∀ i : Fin 32, 8 ≤ i.1 → (255#32).getLsbD i.1 = false := by decide
theorem lr_ssh (x : BitVec 32) (s i : Nat) (hi : i < 32) (hs : s ≤ 24) : (x.getLsbD (s + i) && (255#32).getLsbD i) = ((x.sshiftRight s).getLsbD i && (255#32).getLsbD i) := by
  by_cases h8 : i < 8
  · rw [BitVec.getLsbD_sshiftRight, if_pos (by omega), decide_eq_false (by omega)]
    rfl
  · rw [lr_255 ⟨i, hi⟩ (Nat.not_lt.mp h8), Bool.and_false, Bool.and_false]
theorem lr_shr (x y : Int32) (h : y = 24 ∨ y = 16 ∨ y = 8 ∨ y = 0) : (((x.toUInt32 >>> (y.toUInt32 &&& Int32.toUInt32 31)).toInt32) &&& 255) = ((x >>> (y &&& 31)) &&& 255) := by
  apply Int32.toBitVec_inj.mp
  rcases h with rfl | rfl | rfl | rfl
  · apply BitVec.eq_of_getLsbD_eq
    intro i hi
    simp
    exact lr_ssh _ 24 i hi (by decide)
  · apply BitVec.eq_of_getLsbD_eq
    intro i hi
    simp
    exact lr_ssh _ 16 i hi (by decide)
  · apply BitVec.eq_of_getLsbD_eq
    intro i hi
    simp
    exact lr_ssh _ 8 i hi (by decide)
  · apply BitVec.eq_of_getLsbD_eq
    intro i hi
    simp
/-- the class's put, in the reference's words -/
def lx_puts (I : Nat → Nat → Int32) (v : Int32) (y : Int32) : Nat → Nat → Nat → Int32 := fun n => match n with
  | 0 => I
  | n + 1 => lx_puts (ij_u (ij_u I 2 (I 1 1).toNatClampNeg ((v >>> (y &&& 31)) &&& 255)) 1 1 (I 1 1 + 1)) v (y + (-8)) n
theorem lx_put {X : ij_R} (d : Nat) {b : Bool} (I : Nat → Nat → Int32) (J : Nat → Nat → Int64) (v : Int32) (k : Nat) (hk : k + 4 ≤ 200) (hI : I 1 1 = nI k) : lk_cx1 X (d + 1) 101 [.ref 1, .int v] (xk_R b, I, J) none (xk_R b, lx_puts I v 24 4, J) := by
  refine ik_cr_of (Nat.le_of_ble_eq_true rfl) ?_
  have step : ∀ (C : ij_R) (n k : Nat) (y : Int32) (I : Nat → Nat → Int32), k + n ≤ 200 → I 1 1 = nI k → y = 8 * nI n - 8 → n ≤ 4 → xk_go C 101 (3, [some (.ref 1), some (.int v), some (.int y)], [], (xk_R b, I, J)) none (xk_R b, lx_puts I v y n, J) := by
    intro C n
    induction n with
    | zero =>
      intro k y I _ _ hy _
      exact xp_X8_put_3_0 I J v y (by rw [hy]; decide)
    | succ n ih =>
      intro k y I hk hI hy hn
      have hyy : (¬ y < 0 ∧ (y = 24 ∨ y = 16 ∨ y = 8 ∨ y = 0)) ∧ y + (-8) = 8 * nI n - 8 := by
        rw [hy]
        rcases (show n = 0 ∨ n = 1 ∨ n = 2 ∨ n = 3 by omega) with rfl | rfl | rfl | rfl <;> decide
      have hs := ih (k + 1) (y + (-8)) (ij_u (ij_u I 2 (I 1 1).toNatClampNeg ((v >>> (y &&& 31)) &&& 255)) 1 1 (I 1 1 + 1)) (by omega) (by show I 1 1 + 1 = nI (k + 1); rw [hI]; exact nI_1 k) hyy.2 (by omega)
      refine xp_X8_put_3_3 I J v y hyy.1.1 (by rw [hI]; exact nI_pos (by omega)) (by decide) (by rw [hI]; exact nI_ge (a := k) (b := 200) (by omega) (by decide)) (by rw [hI]; exact vp_in_nI (by omega) (by decide)) ?_
      rw [lr_shr v y hyy.1.2]
      exact hs
  exact xp_X8_put_0_0 I J v (step _ 4 k 24 I hk hI (by decide) (by decide))
/-- the tapes: k bytes are held -/
def lt_tie (k : Nat) (I I2 : Nat → Nat → Int32) : Prop := I 1 1 = nI k ∧ I2 0 6 = nI k ∧ ∀ j, j < 200 → I 2 j = I2 3 j
def lt_fr (I I' : Nat → Nat → Int32) : Prop := ∀ p k, p ≠ 2 → ¬ (p = 1 ∧ k = 1) → I' p k = I p k
def lt_fr2 (I I' : Nat → Nat → Int32) : Prop := ∀ p k, p ≠ 3 → ¬ (p = 0 ∧ k = 6) → ¬ (p = 0 ∧ k = 0) → I' p k = I p k
theorem lt_fr_trans {I I' I'' : Nat → Nat → Int32} (h : lt_fr I I') (h' : lt_fr I' I'') : lt_fr I I'' := fun p k h1 h2 => (h' p k h1 h2).trans (h p k h1 h2)
theorem lt_fr2_trans {I I' I'' : Nat → Nat → Int32} (h : lt_fr2 I I') (h' : lt_fr2 I' I'') : lt_fr2 I I'' := fun p k h1 h2 h3 => (h' p k h1 h2 h3).trans (h p k h1 h2 h3)
theorem lt_step {k : Nat} {I I2 : Nat → Nat → Int32} (hk : k < 200) (h : lt_tie k I I2) (w : Int32) : lt_tie (k + 1) (ij_u (ij_u I 2 (I 1 1).toNatClampNeg w) 1 1 (I 1 1 + 1)) (ij_u (ij_u I2 3 (I2 0 6).toNatClampNeg w) 0 6 (I2 0 6 + 1)) := by
  obtain ⟨h1, h2, h3⟩ := h
  refine ⟨?_, ?_, ?_⟩
  · show I 1 1 + 1 = _
    rw [h1]
    exact nI_1 k
  · show I2 0 6 + 1 = _
    rw [h2]
    exact nI_1 k
  · intro j hj
    show ij_u I 2 (I 1 1).toNatClampNeg w 2 j = ij_u I2 3 (I2 0 6).toNatClampNeg w 3 j
    rw [h1, h2]
    by_cases hjk : j = (nI k).toNatClampNeg
    · rw [hjk, ij_u_same, ij_u_same]
    · rw [ij_u_other _ _ _ _ hjk, ij_u_other _ _ _ _ hjk]
      exact h3 j hj
theorem lt_step_fr (I : Nat → Nat → Int32) (a : Nat) (w z : Int32) : lt_fr I (ij_u (ij_u I 2 a w) 1 1 z) := by
  intro p k h1 h2
  show (if p = 1 then (if k = 1 then z else (if p = 2 then _ else I p k)) else (if p = 2 then _ else I p k)) = I p k
  by_cases hp : p = 1
  · rw [if_pos hp, if_neg (fun q => h2 ⟨hp, q⟩), if_neg h1]
  · rw [if_neg hp, if_neg h1]
theorem lt_step_fr2 (I : Nat → Nat → Int32) (a : Nat) (w z : Int32) : lt_fr2 I (ij_u (ij_u I 3 a w) 0 6 z) := by
  intro p k h1 h2 _
  show (if p = 0 then (if k = 6 then z else (if p = 3 then _ else I p k)) else (if p = 3 then _ else I p k)) = I p k
  by_cases hp : p = 0
  · rw [if_pos hp, if_neg (fun q => h2 ⟨hp, q⟩), if_neg h1]
  · rw [if_neg hp, if_neg h1]
theorem lt_puts (v : Int32) : ∀ (n k : Nat) (y : Int32) (I I2 : Nat → Nat → Int32), k + n ≤ 200 → lt_tie k I I2 → lt_tie (k + n) (lx_puts I v y n) (rs_puts I2 v y n) ∧ lt_fr I (lx_puts I v y n) ∧ lt_fr2 I2 (rs_puts I2 v y n) := by
  intro n
  induction n with
  | zero => exact fun k y I I2 _ h => ⟨h, fun _ _ _ _ => rfl, fun _ _ _ _ _ => rfl⟩
  | succ n ih =>
    intro k y I I2 hk h
    obtain ⟨a1, a2, a3⟩ := ih (k + 1) (y + (-8)) _ _ (by omega) (lt_step (by omega) h ((v >>> (y &&& 31)) &&& 255))
    rw [show k + (n + 1) = k + 1 + n by omega]
    exact ⟨a1, lt_fr_trans (lt_step_fr _ _ _ _) a2, lt_fr2_trans (lt_step_fr2 _ _ _ _) a3⟩
/-- one put of each: they stay tied -/
theorem lt_put {X : ij_R} (d : Nat) {b : Bool} {I I2 : Nat → Nat → Int32} (J J2 : Nat → Nat → Int64) (v : Int32) {k : Nat} (hk : k + 4 ≤ 200) (h : lt_tie k I I2) : ∃ I' I2', lk_cx1 X (d + 1) 101 [.ref 1, .int v] (xk_R b, I, J) none (xk_R b, I', J) ∧ rk_call (d + 1) 4 [.ref 0, .int v] (rk_R, I2, J2) none (rk_R, I2', J2) ∧ lt_tie (k + 4) I' I2' ∧ lt_fr I I' ∧ lt_fr2 I2 I2' := by
  obtain ⟨a1, a2, a3⟩ := lt_puts v 4 k 24 I I2 hk h
  exact ⟨_, _, lx_put d I J v k hk h.1, rs_puts_call d I2 J2 v k hk h.2.1, a1, a2, a3⟩
/-- a tie that looks at the tapes only by lt_tie -/
def lk_tape (R : lk_Rl) : Prop := (∀ b I J I2 J2, R b I J I2 J2 → ∃ k, k ≤ 200 ∧ lt_tie k I I2) ∧ ∀ b I J I2 J2 I' I2' k, R b I J I2 J2 → lt_fr I I' → lt_fr2 I2 I2' → k ≤ 200 → lt_tie k I' I2' → R b I' J I2' J2
theorem lt_u0 (I : Nat → Nat → Int32) (v : Int32) : lt_fr2 I (ij_u I 0 0 v) := by
  intro p k _ _ h3
  show (if p = 0 then (if k = 0 then v else I p k) else I p k) = I p k
  by_cases hp : p = 0
  · rw [if_pos hp, if_neg (fun q => h3 ⟨hp, q⟩)]
  · rw [if_neg hp]
theorem lk_tape_free {R : lk_Rl} (h : lk_tape R) : lk_free R := by
  intro b I J I2 J2 v hR
  obtain ⟨k, hk, ht⟩ := h.1 b I J I2 J2 hR
  exact h.2 b I J I2 J2 I _ k hR (fun _ _ _ _ => rfl) (lt_u0 I2 v) hk ⟨ht.1, ht.2.1, ht.2.2⟩
theorem lq_feed {X : ij_R} {d : Nat} {R : lk_Rl} (h : lk_tape R) : lk_q_feed X (d + 1) R := by
  intro x1 x2 x3 x4 x5 b I J I2 J2 hR
  obtain ⟨k, hk, ht⟩ := h.1 b I J I2 J2 hR
  have ht0 : lt_tie k I (ij_u I2 0 0 0) := ⟨ht.1, ht.2.1, ht.2.2⟩
  have e1 : I 1 1 + 20 = nI (k + 20) := by
    rw [ht.1]
    exact nI_add k 20
  have e2 : I2 0 6 + 20 = nI (k + 20) := by
    rw [ht.2.1]
    exact nI_add k 20
  by_cases hr : k + 20 ≤ 200
  · obtain ⟨Ia, Ja, a1, a2, a3, a4, a5⟩ := lt_put (X := X) d (b := b) J J2 x1 (by omega) ht0
    obtain ⟨Ib, Jb, b1, b2, b3, b4, b5⟩ := lt_put (X := X) d (b := b) J J2 x2 (by omega) a3
    obtain ⟨Ic, Jc, c1, c2, c3, c4, c5⟩ := lt_put (X := X) d (b := b) J J2 x3 (by omega) b3
    obtain ⟨Id, Jd, d1, d2, d3, d4, d5⟩ := lt_put (X := X) d (b := b) J J2 x4 (by omega) c3
    obtain ⟨Ie, Je, f1, f2, f3, f4, f5⟩ := lt_put (X := X) d (b := b) J J2 x5 (by omega) d3
    refine ⟨nI (k + 4 + 4 + 4 + 4 + 4), b, Ie, J, Je, J2, ?_, ?_, ?_⟩
    · refine ik_cr_of (Nat.le_of_ble_eq_true rfl) (xp_X10_feed_0_0 I J x1 x2 x3 x4 x5 1 (ik_cr_of (Nat.le_of_ble_eq_true rfl) (xp_X8_hasRoom_0_1 I J (by rw [e1]; exact nI_nlt (a := 200) hr (by decide)))) (xp_X10_feed_7_0 I J x1 x2 x3 x4 x5 1 (by decide) a1 (xp_X10_feed_20_0 Ia J x2 x3 x4 x5 b1 (xp_X10_feed_28_0 Ib J x3 x4 x5 c1 (xp_X10_feed_36_0 Ic J x4 x5 d1 (xp_X10_feed_45_0 Id J x5 f1 ?_))))))
      rw [← f3.1]
      exact xp_X10_feed_54_0 Ie J
    · refine ij_cr_of (Nat.le_of_ble_eq_true rfl) (rp_feed_0_0 I2 J2 x1 x2 x3 x4 x5 (by rw [e2]; exact nI_le (b := 200) hr (by decide)) a2 (rp_feed_25_0 Ja J2 x2 x3 x4 x5 b2 (rp_feed_30_0 Jb J2 x3 x4 x5 c2 (rp_feed_35_0 Jc J2 x4 x5 d2 (rp_feed_41_0 Jd J2 x5 f2 ?_)))))
      rw [← f3.2.1]
      exact rp_feed_47_0 Je J2
    · exact h.2 b I J I2 J2 Ie Je _ hR (lt_fr_trans (lt_fr_trans (lt_fr_trans (lt_fr_trans a4 b4) c4) d4) f4) (lt_fr2_trans (lt_fr2_trans (lt_fr2_trans (lt_fr2_trans (lt_fr2_trans (lt_u0 I2 0) a5) b5) c5) d5) f5) (by omega) f3
  · refine ⟨-1, b, I, J, ij_u I2 0 0 0, J2, ?_, ?_, lk_tape_free h b I J I2 J2 0 hR⟩
    · exact ik_cr_of (Nat.le_of_ble_eq_true rfl) (xp_X10_feed_0_0 I J x1 x2 x3 x4 x5 0 (ik_cr_of (Nat.le_of_ble_eq_true rfl) (xp_X8_hasRoom_0_0 I J (by rw [e1]; exact nI_lt (a := 200) (by omega) (by omega)))) (xp_X10_feed_7_1 I J x1 x2 x3 x4 x5 0 rfl))
    · exact ij_cr_of (Nat.le_of_ble_eq_true rfl) (rp_feed_0_1 I2 J2 x1 x2 x3 x4 x5 (by rw [e2]; exact nI_ge (a := 200) (by omega) (by omega)))
