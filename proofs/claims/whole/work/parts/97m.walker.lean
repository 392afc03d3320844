/-! ===== the walker, whichever of its rows is which (laid by a program: mkxb) ===== -/
def wE (b : Bool) : Nat := bif b then 21 else 20
def wS (b : Bool) : Nat := bif b then 20 else 21
theorem xk_bf {k m : Nat} (h : k ≠ m) : Nat.beq k m = false := Bool.eq_false_iff.mpr (fun e => h (Nat.eq_of_beq_eq_true e))
theorem xk_Rother {b c : Bool} {p k : Nat} (h : p ≠ 19 ∨ k ≠ 1 ∧ k ≠ 2) : xk_R b p k = xk_R c p k := by
  unfold xk_R
  rcases h with h | ⟨h1, h2⟩
  · rw [xk_bf h]
    simp only [Bool.false_and, cond_false]
  · rw [xk_bf h1, xk_bf h2]
    simp only [Bool.false_and, Bool.and_false, cond_false]
theorem xk_Rsw (b : Bool) : ij_u (ij_u (xk_R b) 19 1 (wS b)) 19 2 (wE b) = xk_R (!b) := by
  funext p k
  by_cases hp : p = 19
  · subst hp
    by_cases h2 : k = 2
    · subst h2
      rw [ij_u_same]
      cases b <;> rfl
    · rw [ij_u_other _ _ _ _ h2]
      by_cases h1 : k = 1
      · subst h1
        rw [ij_u_same]
        cases b <;> rfl
      · rw [ij_u_other _ _ _ _ h1]
        exact xk_Rother (Or.inr ⟨h1, h2⟩)
  · rw [ij_u_ne hp, ij_u_ne hp]
    exact xk_Rother (Or.inl hp)
theorem xb_endsAt_0_0 {b : Bool} {C : ij_R} (I : Nat → Nat → Int32) (J : Nat → Nat → Int64) (x1 : Int32) (h0 : x1 < 0) : xk_go C 108 (0, [some (.ref 19), some (.int (x1))], [], ((xk_R b), I, J)) (some (.long (0))) ((xk_R b), I, J) := by
  cases b with
  | false => exact xp_X9_endsAt_f_0_0 I J x1 h0
  | true => exact xp_X9_endsAt_t_0_0 I J x1 h0
theorem xb_endsAt_0_1 {b : Bool} {C : ij_R} (I : Nat → Nat → Int32) (J : Nat → Nat → Int64) (x1 : Int32) (h0 : ¬ x1 < 0) (h1 : 1 < 3) (h2 : (2000 : Int32) ≤ x1) : xk_go C 108 (0, [some (.ref 19), some (.int (x1))], [], ((xk_R b), I, J)) (some (.long (0))) ((xk_R b), I, J) := by
  cases b with
  | false => exact xp_X9_endsAt_f_0_1 I J x1 h0 h1 h2
  | true => exact xp_X9_endsAt_t_0_1 I J x1 h0 h1 h2
theorem xb_endsAt_0_2 {b : Bool} {C : ij_R} (I : Nat → Nat → Int32) (J : Nat → Nat → Int64) (x1 : Int32) (h0 : ¬ x1 < 0) (h1 : 1 < 3) (h2 : ¬ (2000 : Int32) ≤ x1) (h3 : vp_in x1 2000) : xk_go C 108 (0, [some (.ref 19), some (.int (x1))], [], ((xk_R b), I, J)) (some (.long (J (wE b) ((x1 : Int32).toNatClampNeg)))) ((xk_R b), I, J) := by
  cases b with
  | false => exact xp_X9_endsAt_f_0_2 I J x1 h0 h1 h2 h3
  | true => exact xp_X9_endsAt_t_0_2 I J x1 h0 h1 h2 h3
theorem xb_walkTo_0_0 {b : Bool} {C : ij_R} {v : Option Value} {τ : ij_S} (I : Nat → Nat → Int32) (J : Nat → Nat → Int64) (x1 : Int32) {b' : Bool} {I' : Nat → Nat → Int32} {J' : Nat → Nat → Int64} (h0 : (I 19 3) = (-1)) (hc : C 151 [.ref (wE b), .long (0)] ((xk_R b), I, J) none ((xk_R b'), I', J')) (hg : xk_go C 109 (24, [some (.ref 19), some (.int (x1))], [], ((xk_R b'), I', J')) v τ) : xk_go C 109 (0, [some (.ref 19), some (.int (x1))], [], ((xk_R b), I, J)) v τ := by
  cases b with
  | false => exact xp_X9_walkTo_f_0_0 I J x1 h0 hc hg
  | true => exact xp_X9_walkTo_t_0_0 I J x1 h0 hc hg
theorem xb_walkTo_0_1 {b : Bool} {C : ij_R} {v : Option Value} {τ : ij_S} (I : Nat → Nat → Int32) (J : Nat → Nat → Int64) (x1 : Int32) (h0 : ¬ (I 19 3) = (-1)) (h1 : (I 19 3) ≤ x1) (hg : xk_go C 109 (44, [some (.ref 19), some (.int (x1))], [], ((xk_R b), I, J)) v τ) : xk_go C 109 (0, [some (.ref 19), some (.int (x1))], [], ((xk_R b), I, J)) v τ := by
  cases b with
  | false => exact xp_X9_walkTo_f_0_1 I J x1 h0 h1 hg
  | true => exact xp_X9_walkTo_t_0_1 I J x1 h0 h1 hg
theorem xb_walkTo_0_2 {b : Bool} {C : ij_R} {v : Option Value} {τ : ij_S} (I : Nat → Nat → Int32) (J : Nat → Nat → Int64) (x1 : Int32) {b' : Bool} {I' : Nat → Nat → Int32} {J' : Nat → Nat → Int64} (h0 : ¬ (I 19 3) = (-1)) (h1 : ¬ (I 19 3) ≤ x1) (hc : C 151 [.ref (wE b), .long (0)] ((xk_R b), I, J) none ((xk_R b'), I', J')) (hg : xk_go C 109 (24, [some (.ref 19), some (.int (x1))], [], ((xk_R b'), I', J')) v τ) : xk_go C 109 (0, [some (.ref 19), some (.int (x1))], [], ((xk_R b), I, J)) v τ := by
  cases b with
  | false => exact xp_X9_walkTo_f_0_2 I J x1 h0 h1 hc hg
  | true => exact xp_X9_walkTo_t_0_2 I J x1 h0 h1 hc hg
theorem xb_walkTo_24_0 {b : Bool} {C : ij_R} {v : Option Value} {τ : ij_S} (I : Nat → Nat → Int32) (J : Nat → Nat → Int64) (x1 : Int32) {b' : Bool} {I' : Nat → Nat → Int32} {J' : Nat → Nat → Int64} (hc : C 151 [.ref (wS b), .long (0)] ((xk_R b), I, J) none ((xk_R b'), I', J')) (hg : xk_go C 109 (32, [some (.ref 19), some (.int (x1))], [], ((xk_R b'), I', J')) v τ) : xk_go C 109 (24, [some (.ref 19), some (.int (x1))], [], ((xk_R b), I, J)) v τ := by
  cases b with
  | false => exact xp_X9_walkTo_f_24_0 I J x1 hc hg
  | true => exact xp_X9_walkTo_t_24_0 I J x1 hc hg
theorem xb_walkTo_32_0 {b : Bool} {C : ij_R} {v : Option Value} {τ : ij_S} (I : Nat → Nat → Int32) (J : Nat → Nat → Int64) (x1 : Int32) (h0 : vp_in 0 2000) (hg : xk_go C 109 (44, [some (.ref 19), some (.int (x1))], [], ((xk_R b), (ij_u I 19 3 0), (ij_u J (wE b) ((0 : Int32).toNatClampNeg) 1))) v τ) : xk_go C 109 (32, [some (.ref 19), some (.int (x1))], [], ((xk_R b), I, J)) v τ := by
  cases b with
  | false => exact xp_X9_walkTo_f_32_0 I J x1 h0 hg
  | true => exact xp_X9_walkTo_t_32_0 I J x1 h0 hg
theorem xb_walkTo_44_0 {b : Bool} {C : ij_R} (I : Nat → Nat → Int32) (J : Nat → Nat → Int64) (x1 : Int32) (h0 : x1 ≤ (I 19 3)) : xk_go C 109 (44, [some (.ref 19), some (.int (x1))], [], ((xk_R b), I, J)) none ((xk_R b), I, J) := by
  cases b with
  | false => exact xp_X9_walkTo_f_44_0 I J x1 h0
  | true => exact xp_X9_walkTo_t_44_0 I J x1 h0
theorem xb_walkTo_44_1 {b : Bool} {C : ij_R} {v : Option Value} {τ : ij_S} (I : Nat → Nat → Int32) (J : Nat → Nat → Int64) (x1 : Int32) {b' : Bool} {I' : Nat → Nat → Int32} {J' : Nat → Nat → Int64} (h0 : ¬ x1 ≤ (I 19 3)) (hc : C 110 [.ref 19, .int ((I 19 3) + 1)] ((xk_R b), I, J) none ((xk_R b'), I', J')) (hg : xk_go C 109 (62, [some (.ref 19), some (.int (x1))], [], ((xk_R b'), I', J')) v τ) : xk_go C 109 (44, [some (.ref 19), some (.int (x1))], [], ((xk_R b), I, J)) v τ := by
  cases b with
  | false => exact xp_X9_walkTo_f_44_1 I J x1 h0 hc hg
  | true => exact xp_X9_walkTo_t_44_1 I J x1 h0 hc hg
theorem xb_walkTo_62_0 {b : Bool} {C : ij_R} {v : Option Value} {τ : ij_S} (I : Nat → Nat → Int32) (J : Nat → Nat → Int64) (x1 : Int32) (hg : xk_go C 109 (44, [some (.ref 19), some (.int (x1))], [], ((xk_R b), (ij_u I 19 3 ((I 19 3) + 1)), J)) v τ) : xk_go C 109 (62, [some (.ref 19), some (.int (x1))], [], ((xk_R b), I, J)) v τ := by
  cases b with
  | false => exact xp_X9_walkTo_f_62_0 I J x1 hg
  | true => exact xp_X9_walkTo_t_62_0 I J x1 hg
theorem xb_walkOneMore_0_0 {b : Bool} {C : ij_R} {v : Option Value} {τ : ij_S} (I : Nat → Nat → Int32) (J : Nat → Nat → Int64) (x1 : Int32) (hg : xk_go C 110 (2, [some (.ref 19), some (.int (x1)), some (.int (0)), none, none, none], [], ((xk_R b), I, J)) v τ) : xk_go C 110 (0, [some (.ref 19), some (.int (x1)), none, none, none, none], [], ((xk_R b), I, J)) v τ := by
  cases b with
  | false => exact xp_X9_walkOneMore_f_0_0 I J x1 hg
  | true => exact xp_X9_walkOneMore_t_0_0 I J x1 hg
theorem xb_walkOneMore_2_0 {b : Bool} {C : ij_R} (I : Nat → Nat → Int32) (J : Nat → Nat → Int64) (x1 x2 : Int32) (h0 : (I 6 9) ≤ x2) : xk_go C 110 (2, [some (.ref 19), some (.int (x1)), some (.int (x2)), none, none, none], [], ((xk_R b), I, J)) none ((xk_R (!b)), I, J) := by
  rw [← xk_Rsw]
  cases b with
  | false => exact xp_X9_walkOneMore_f_2_0 I J x1 x2 h0
  | true => exact xp_X9_walkOneMore_t_2_0 I J x1 x2 h0
theorem xb_walkOneMore_2_1 {b : Bool} {C : ij_R} (I : Nat → Nat → Int32) (J : Nat → Nat → Int64) (x1 x2 : Int32) (h0 : ¬ (I 6 9) ≤ x2) (h1 : 1 < 3) (h2 : (2000 : Int32) ≤ x2) : xk_go C 110 (2, [some (.ref 19), some (.int (x1)), some (.int (x2)), none, none, none], [], ((xk_R b), I, J)) none ((xk_R (!b)), I, J) := by
  rw [← xk_Rsw]
  cases b with
  | false => exact xp_X9_walkOneMore_f_2_1 I J x1 x2 h0 h1 h2
  | true => exact xp_X9_walkOneMore_t_2_1 I J x1 x2 h0 h1 h2
theorem xb_walkOneMore_2_2 {b : Bool} {C : ij_R} {v : Option Value} {τ : ij_S} (I : Nat → Nat → Int32) (J : Nat → Nat → Int64) (x1 x2 : Int32) (w : Int32) {b' : Bool} {I' : Nat → Nat → Int32} {J' : Nat → Nat → Int64} (h0 : ¬ (I 6 9) ≤ x2) (h1 : 1 < 3) (h2 : ¬ (2000 : Int32) ≤ x2) (hc : C 34 [.ref 6, .int (x2)] ((xk_R b), I, J) (some (.int w)) ((xk_R b'), I', J')) (hg : xk_go C 110 (30, [some (.ref 19), some (.int (x1)), some (.int (x2)), none, none, none], [.int (w)], ((xk_R b'), I', J')) v τ) : xk_go C 110 (2, [some (.ref 19), some (.int (x1)), some (.int (x2)), none, none, none], [], ((xk_R b), I, J)) v τ := by
  cases b with
  | false => exact xp_X9_walkOneMore_f_2_2 I J x1 x2 w h0 h1 h2 hc hg
  | true => exact xp_X9_walkOneMore_t_2_2 I J x1 x2 w h0 h1 h2 hc hg
theorem xb_walkOneMore_30_0 {b : Bool} {C : ij_R} {v : Option Value} {τ : ij_S} (I : Nat → Nat → Int32) (J : Nat → Nat → Int64) (x1 x2 s0 : Int32) (h0 : s0 ≤ x1) (hg : xk_go C 110 (42, [some (.ref 19), some (.int (x1)), some (.int (x2)), some (.long (0)), none, some (.int (0))], [], ((xk_R b), I, J)) v τ) : xk_go C 110 (30, [some (.ref 19), some (.int (x1)), some (.int (x2)), none, none, none], [.int (s0)], ((xk_R b), I, J)) v τ := by
  cases b with
  | false => exact xp_X9_walkOneMore_f_30_0 I J x1 x2 s0 h0 hg
  | true => exact xp_X9_walkOneMore_t_30_0 I J x1 x2 s0 h0 hg
theorem xb_walkOneMore_30_1 {b : Bool} {C : ij_R} (I : Nat → Nat → Int32) (J : Nat → Nat → Int64) (x1 x2 s0 : Int32) (h0 : ¬ s0 ≤ x1) : xk_go C 110 (30, [some (.ref 19), some (.int (x1)), some (.int (x2)), none, none, none], [.int (s0)], ((xk_R b), I, J)) none ((xk_R (!b)), I, J) := by
  rw [← xk_Rsw]
  cases b with
  | false => exact xp_X9_walkOneMore_f_30_1 I J x1 x2 s0 h0
  | true => exact xp_X9_walkOneMore_t_30_1 I J x1 x2 s0 h0
theorem xb_walkOneMore_42_0 {b : Bool} {C : ij_R} {v : Option Value} {τ : ij_S} (I : Nat → Nat → Int32) (J : Nat → Nat → Int64) (x1 x2 x5 : Int32) (x3 : Int64) (h0 : (I 6 8) ≤ x5) (h1 : vp_in x2 2000) (hg : xk_go C 110 (2, [some (.ref 19), some (.int (x1)), some (.int (x2 + 1)), none, none, none], [], ((xk_R b), I, (ij_u J (wS b) ((x2 : Int32).toNatClampNeg) x3))) v τ) : xk_go C 110 (42, [some (.ref 19), some (.int (x1)), some (.int (x2)), some (.long (x3)), none, some (.int (x5))], [], ((xk_R b), I, J)) v τ := by
  cases b with
  | false => exact xp_X9_walkOneMore_f_42_0 I J x1 x2 x5 x3 h0 h1 hg
  | true => exact xp_X9_walkOneMore_t_42_0 I J x1 x2 x5 x3 h0 h1 hg
theorem xb_walkOneMore_42_1 {b : Bool} {C : ij_R} {v : Option Value} {τ : ij_S} (I : Nat → Nat → Int32) (J : Nat → Nat → Int64) (x1 x2 x5 : Int32) (x3 : Int64) (w : Int32) {b' : Bool} {I' : Nat → Nat → Int32} {J' : Nat → Nat → Int64} (h0 : ¬ (I 6 8) ≤ x5) (hc : C 33 [.ref 6, .int (x2), .int (x5)] ((xk_R b), I, J) (some (.int w)) ((xk_R b'), I', J')) (hg : xk_go C 110 (66, [some (.ref 19), some (.int (x1)), some (.int (x2)), none, none, some (.int (x5))], [.int (w), .ref 19, .long (x3)], ((xk_R b'), I', J')) v τ) : xk_go C 110 (42, [some (.ref 19), some (.int (x1)), some (.int (x2)), some (.long (x3)), none, some (.int (x5))], [], ((xk_R b), I, J)) v τ := by
  cases b with
  | false => exact xp_X9_walkOneMore_f_42_1 I J x1 x2 x5 x3 w h0 hc hg
  | true => exact xp_X9_walkOneMore_t_42_1 I J x1 x2 x5 x3 w h0 hc hg
theorem xb_walkOneMore_66_0 {b : Bool} {C : ij_R} {v : Option Value} {τ : ij_S} (I : Nat → Nat → Int32) (J : Nat → Nat → Int64) (x1 x2 x5 s2 : Int32) (s0 : Int64) (w : Int64) {b' : Bool} {I' : Nat → Nat → Int32} {J' : Nat → Nat → Int64} (hc : C 108 [.ref 19, .int (s2)] ((xk_R b), I, J) (some (.long w)) ((xk_R b'), I', J')) (hg : xk_go C 110 (69, [some (.ref 19), some (.int (x1)), some (.int (x2)), none, none, some (.int (x5))], [.long (w), .long (s0)], ((xk_R b'), I', J')) v τ) : xk_go C 110 (66, [some (.ref 19), some (.int (x1)), some (.int (x2)), none, none, some (.int (x5))], [.int (s2), .ref 19, .long (s0)], ((xk_R b), I, J)) v τ := by
  cases b with
  | false => exact xp_X9_walkOneMore_f_66_0 I J x1 x2 x5 s2 s0 w hc hg
  | true => exact xp_X9_walkOneMore_t_66_0 I J x1 x2 x5 s2 s0 w hc hg
theorem xb_walkOneMore_69_0 {b : Bool} {C : ij_R} {v : Option Value} {τ : ij_S} (I : Nat → Nat → Int32) (J : Nat → Nat → Int64) (x1 x2 x5 : Int32) (s0 s1 : Int64) (hg : xk_go C 110 (42, [some (.ref 19), some (.int (x1)), some (.int (x2)), some (.long (s0 + s1)), none, some (.int (x5 + 1))], [], ((xk_R b), I, J)) v τ) : xk_go C 110 (69, [some (.ref 19), some (.int (x1)), some (.int (x2)), none, none, some (.int (x5))], [.long (s1), .long (s0)], ((xk_R b), I, J)) v τ := by
  cases b with
  | false => exact xp_X9_walkOneMore_f_69_0 I J x1 x2 x5 s0 s1 hg
  | true => exact xp_X9_walkOneMore_t_69_0 I J x1 x2 x5 s0 s1 hg
