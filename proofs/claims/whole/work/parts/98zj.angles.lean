/-! ===== laying a board: the reference's angles ===== -/
/-- a to the power of k, modulo q -/
def an_pw (a q : Nat) : Nat → Nat
  | 0 => 1
  | k + 1 => an_pw a q k * a % q
theorem an_pw_lt {a q : Nat} (hq : 1 < q) : ∀ k, an_pw a q k < q := by
  intro k
  cases k with
  | zero => exact hq
  | succ k => exact Nat.mod_lt _ (by omega)
theorem an_mod {a q : Nat} (h0 : 0 < q) (ha : a < 2 ^ 63) (hq : q < 2 ^ 63) : lN a - lN a / lN q * lN q = lN (a % q) := pk_lRem ha h0 hq
section AN1
variable {d : Nat} {I : Nat → Nat → Int32} {J : Nat → Nat → Int64}
theorem rs_power6 {C : ij_R} {a q e : Nat} (ha : a < 2 ^ 31) (hq1 : 1 < q) (hq : q < 2 ^ 31) (he : e ≤ 5040) : ∀ (r k : Nat), k + r = e → rk_go C 20 (6, [some (.long (lN a)), none, some (.int (nI e)), some (.long (lN q)), none, some (.long (lN (an_pw a q k))), none, some (.int (nI k))], [], (rk_R, I, J)) (some (.long (lN (an_pw a q e)))) (rk_R, I, J) := by
  intro r
  induction r with
  | zero =>
    intro k hk
    have : k = e := by omega
    subst this
    exact rp_power_6_0 I J _ _ _ _ _ (nI_le (Nat.le_refl k) (by omega))
  | succ r ih =>
    intro k hk
    have hlt := an_pw_lt (a := a) hq1 k
    have hm : an_pw a q k * a < 2 ^ 63 := by
      have h1 : an_pw a q k * a ≤ (2 ^ 31 - 1) * (2 ^ 31 - 1) := Nat.mul_le_mul (by omega) (by omega)
      have h2 : (2 ^ 31 - 1) * (2 ^ 31 - 1) < 2 ^ 63 := by decide
      omega
    have q1 := rp_power_6_1 (C := C) (v := some (.long (lN (an_pw a q e)))) (τ := (rk_R, I, J)) I J (nI e) (nI k) (lN a) (lN q) (lN (an_pw a q k)) (nI_ge (by omega) (by omega)) (lN_ne0 (by omega) (by omega))
    rw [lN_mul, an_mod (by omega) hm (by omega), nI_1] at q1
    exact q1 (ih (k + 1) (by omega))
theorem rs_power {a q e : Nat} (ha : a < 2 ^ 31) (hq1 : 1 < q) (hq : q < 2 ^ 31) (he : e ≤ 5040) : rk_call (d + 1) 20 [.long (lN a), .int (nI e), .long (lN q)] (rk_R, I, J) (some (.long (lN (an_pw a q e)))) (rk_R, I, J) :=
  ij_cr_of (Nat.le_of_ble_eq_true rfl) (rp_power_0_0 I J _ _ _ (rs_power6 ha hq1 hq he e 0 (Nat.zero_add e)))
end AN1
def an_P1 : Nat := 2147478481
def an_P2 : Nat := 2147463361
/-- twice the cosine, modulo the first prime and modulo the second -/
def an_c1 (m : Nat) : Nat := if m = 0 then 2 else (an_pw 756605797 an_P1 (5040 / (2 * m)) + an_pw 756605797 an_P1 (5040 - 5040 / (2 * m))) % an_P1
def an_c2 (m : Nat) : Nat := if m = 0 then 2 else (an_pw 2069758680 an_P2 (5040 / (2 * m)) + an_pw 2069758680 an_P2 (5040 - 5040 / (2 * m))) % an_P2
/-- the corner between two sides, 0 if there is none -/
def an_m (p : Nat) (cs : Nat → Nat) (i j : Nat) : Nat := if (i + 1) % p = j then cs i else if (j + 1) % p = i then cs j else 0
section AN2
variable {d p : Nat} {cs : Nat → Nat} {I : Nat → Nat → Int32}
theorem rs_angle1 {J : Nat → Nat → Int64} {i j m : Nat} (hi : i < p) (hj : j < p) (hp : p ≤ 8) (hm0 : m ≠ 0) (hm : m < 10) {v : Option Value} {τ : ij_S} (hg : rk_go (rk_call (d + 1)) 21 (12, [some (.ref 0), some (.int (nI i)), some (.int (nI (j + 1))), none, none, none], [], (rk_R, I, ij_u (ij_u J 19 (8 * i + j) (lN (an_c1 m))) 20 (8 * i + j) (lN (an_c2 m)))) v τ) {w : Int64} (hw : w = lN (an_pw 756605797 an_P1 (5040 / (2 * m)))) : rk_go (rk_call (d + 1)) 21 (124, [some (.ref 0), some (.int (nI i)), some (.int (nI j)), some (.int (nI (8 * i + j))), none, some (.int (nI (5040 / (2 * m))))], [.long w, .int (nI (8 * i + j)), .ref 19], (rk_R, I, J)) v τ := by
  have he : 5040 / (2 * m) ≤ 5040 := Nat.div_le_self _ _
  have e5 : (5040 : Int32) - nI (5040 / (2 * m)) = nI (5040 - 5040 / (2 * m)) := by rw [show (5040 : Int32) = nI 5040 from rfl, pk_sub he]
  have cl : (nI (8 * i + j)).toNatClampNeg = 8 * i + j := nI_clamp (by omega)
  have l1 := an_pw_lt (a := 756605797) (q := an_P1) (by decide) (5040 / (2 * m))
  have l2 := an_pw_lt (a := 756605797) (q := an_P1) (by decide) (5040 - 5040 / (2 * m))
  have l3 := an_pw_lt (a := 2069758680) (q := an_P2) (by decide) (5040 / (2 * m))
  have l4 := an_pw_lt (a := 2069758680) (q := an_P2) (by decide) (5040 - 5040 / (2 * m))
  have b1 : an_P1 = 2147478481 := rfl
  have b2 : an_P2 = 2147463361 := rfl
  have q1 := rp_angles_124_0 (C := rk_call (d + 1)) (v := v) (τ := τ) (I' := I) (J' := J) I J (nI i) (nI j) (nI (8 * i + j)) (nI (5040 / (2 * m))) (nI (8 * i + j)) w (lN (an_pw 756605797 an_P1 (5040 - 5040 / (2 * m))))
  rw [e5] at q1
  refine q1 (rs_power (d := d) (a := 756605797) (q := an_P1) (by decide) (by decide) (by decide) (Nat.sub_le _ _)) ?_
  have q2 := rp_angles_139_0 (C := rk_call (d + 1)) (v := v) (τ := τ) (I' := I) (J' := ij_u J 19 (8 * i + j) (lN (an_c1 m))) I J (nI i) (nI j) (nI (8 * i + j)) (nI (5040 / (2 * m))) (nI (8 * i + j)) w (lN (an_pw 756605797 an_P1 (5040 - 5040 / (2 * m)))) (by decide) (vp_in_nI (by omega) (by decide)) (lN (an_pw 2069758680 an_P2 (5040 / (2 * m))))
  have ec1 : an_c1 m = (an_pw 756605797 an_P1 (5040 / (2 * m)) + an_pw 756605797 an_P1 (5040 - 5040 / (2 * m))) % an_P1 := if_neg hm0
  have ec2 : an_c2 m = (an_pw 2069758680 an_P2 (5040 / (2 * m)) + an_pw 2069758680 an_P2 (5040 - 5040 / (2 * m))) % an_P2 := if_neg hm0
  rw [cl, hw, lN_add, show (2147478481 : Int64) = lN an_P1 from rfl, an_mod (by decide) (by omega) (by decide), ← ec1] at q2
  rw [hw]
  refine q2 (rs_power (d := d) (a := 2069758680) (q := an_P2) (by decide) (by decide) (by decide) he) ?_
  have q3 := rp_angles_161_0 (C := rk_call (d + 1)) (v := v) (τ := τ) (I' := I) (J' := ij_u J 19 (8 * i + j) (lN (an_c1 m))) I (ij_u J 19 (8 * i + j) (lN (an_c1 m))) (nI i) (nI j) (nI (5040 / (2 * m))) (nI (8 * i + j)) (lN (an_pw 2069758680 an_P2 (5040 / (2 * m)))) (lN (an_pw 2069758680 an_P2 (5040 - 5040 / (2 * m))))
  rw [e5] at q3
  refine q3 (rs_power (d := d) (a := 2069758680) (q := an_P2) (by decide) (by decide) (by decide) (Nat.sub_le _ _)) ?_
  have q4 := rp_angles_176_0 (C := rk_call (d + 1)) (v := v) (τ := τ) I (ij_u J 19 (8 * i + j) (lN (an_c1 m))) (nI i) (nI j) (nI (8 * i + j)) (lN (an_pw 2069758680 an_P2 (5040 / (2 * m)))) (lN (an_pw 2069758680 an_P2 (5040 - 5040 / (2 * m)))) (by decide) (vp_in_nI (by omega) (by decide))
  rw [cl, lN_add, show (2147463361 : Int64) = lN an_P2 from rfl, an_mod (by decide) (by omega) (by decide), ← ec2, nI_1] at q4
  exact q4 hg
theorem rs_ang12 {i : Nat} (hi : i < p) (hp3 : 3 ≤ p) (hp : p ≤ 8) (hcs : ∀ j, j < p → cs j < 10) (h1 : I 0 1 = nI p) (hc : ∀ j, j < p → I 1 j = nI (cs j)) : ∀ (r j : Nat) (J : Nat → Nat → Int64), j + r = p → ∃ J' : Nat → Nat → Int64, (∀ v τ, rk_go (rk_call (d + 1)) 21 (2, [some (.ref 0), some (.int (nI (i + 1))), none, none, none, none], [], (rk_R, I, J')) v τ → rk_go (rk_call (d + 1)) 21 (12, [some (.ref 0), some (.int (nI i)), some (.int (nI j)), none, none, none], [], (rk_R, I, J)) v τ) ∧ (∀ k, j ≤ k → k < p → J' 19 (8 * i + k) = lN (an_c1 (an_m p cs i k)) ∧ J' 20 (8 * i + k) = lN (an_c2 (an_m p cs i k))) ∧ (∀ y, (y < 8 * i + j ∨ 8 * i + 8 ≤ y) → J' 19 y = J 19 y ∧ J' 20 y = J 20 y) ∧ ∀ q, q ≠ 19 → q ≠ 20 → J' q = J q := by
  intro r
  induction r with
  | zero =>
    intro j J hj
    have : j = p := by omega
    subst this
    refine ⟨J, fun v τ hg => ?_, fun k h1 h2 => by omega, fun _ _ => ⟨rfl, rfl⟩, fun _ _ _ => rfl⟩
    rw [← nI_1] at hg
    exact rp_angles_12_0 I J _ _ (by rw [h1]; exact nI_le (Nat.le_refl j) (by omega)) hg
  | succ r ih =>
    intro j J hj
    have hjp : j < p := by omega
    have e8 : (8 : Int32) * nI i + nI j = nI (8 * i + j) := lr_8' i j
    have cl : (nI (8 * i + j)).toNatClampNeg = 8 * i + j := nI_clamp (by omega)
    have clj : (nI j).toNatClampNeg = j := nI_clamp (by omega)
    have cli : (nI i).toNatClampNeg = i := nI_clamp (by omega)
    have hge : ¬ I 0 1 ≤ nI j := by rw [h1]; exact nI_ge (by omega) (by omega)
    have v64 : vp_in (nI (8 * i + j)) 64 := vp_in_nI (by omega) (by decide)
    have np : ¬ I 0 1 = 0 := by rw [h1]; exact nI_ne0 (by omega) (by omega)
    have mi : nI i + 1 - (nI i + 1) / I 0 1 * I 0 1 = nI ((i + 1) % p) := by rw [h1, nI_1, cb_mod (by omega) (by omega) (by omega)]
    have mj : nI j + 1 - (nI j + 1) / I 0 1 * I 0 1 = nI ((j + 1) % p) := by rw [h1, nI_1, cb_mod (by omega) (by omega) (by omega)]
    have mil := Nat.mod_lt (i + 1) (show 0 < p by omega)
    have mjl := Nat.mod_lt (j + 1) (show 0 < p by omega)
    -- what is written, whichever way
    have fin : ∀ m, an_m p cs i j = m → (∀ v τ, rk_go (rk_call (d + 1)) 21 (12, [some (.ref 0), some (.int (nI i)), some (.int (nI (j + 1))), none, none, none], [], (rk_R, I, ij_u (ij_u (ij_u (ij_u J 19 (8 * i + j) 2) 20 (8 * i + j) 2) 19 (8 * i + j) (lN (an_c1 m))) 20 (8 * i + j) (lN (an_c2 m)))) v τ → rk_go (rk_call (d + 1)) 21 (12, [some (.ref 0), some (.int (nI i)), some (.int (nI j)), none, none, none], [], (rk_R, I, J)) v τ) → ∃ J' : Nat → Nat → Int64, (∀ v τ, rk_go (rk_call (d + 1)) 21 (2, [some (.ref 0), some (.int (nI (i + 1))), none, none, none, none], [], (rk_R, I, J')) v τ → rk_go (rk_call (d + 1)) 21 (12, [some (.ref 0), some (.int (nI i)), some (.int (nI j)), none, none, none], [], (rk_R, I, J)) v τ) ∧ (∀ k, j ≤ k → k < p → J' 19 (8 * i + k) = lN (an_c1 (an_m p cs i k)) ∧ J' 20 (8 * i + k) = lN (an_c2 (an_m p cs i k))) ∧ (∀ y, (y < 8 * i + j ∨ 8 * i + 8 ≤ y) → J' 19 y = J 19 y ∧ J' 20 y = J 20 y) ∧ ∀ q, q ≠ 19 → q ≠ 20 → J' q = J q := by
      intro m em hgo
      obtain ⟨J', z1, z2, z3, z4⟩ := ih (j + 1) (ij_u (ij_u (ij_u (ij_u J 19 (8 * i + j) 2) 20 (8 * i + j) 2) 19 (8 * i + j) (lN (an_c1 m))) 20 (8 * i + j) (lN (an_c2 m))) (by omega)
      refine ⟨J', fun v τ hg => hgo v τ (z1 v τ hg), fun k k1 k2 => ?_, fun y hy => ?_, fun q a1 a2 => by rw [z4 q a1 a2, ij_u_ne a2, ij_u_ne a1, ij_u_ne a2, ij_u_ne a1]⟩
      · by_cases e : k = j
        · subst e
          have z := z3 (8 * i + k) (by omega)
          rw [z.1, z.2, em]
          exact ⟨(congrFun (ij_u_ne (by decide)) _).trans (ij_u_same _ _ _ _), ij_u_same _ _ _ _⟩
        · exact z2 k (by omega) k2
      · have z := z3 y (by omega)
        rw [z.1, z.2]
        have ne : y ≠ 8 * i + j := by omega
        refine ⟨?_, ?_⟩
        · rw [congrFun (ij_u_ne (by decide)) y, ij_u_other _ _ _ _ ne, congrFun (ij_u_ne (by decide)) y, ij_u_other _ _ _ _ ne]
        · rw [ij_u_other _ _ _ _ ne, congrFun (ij_u_ne (by decide)) y, ij_u_other _ _ _ _ ne, congrFun (ij_u_ne (by decide)) y]
    have two : ij_u (ij_u (ij_u (ij_u J 19 (8 * i + j) 2) 20 (8 * i + j) 2) 19 (8 * i + j) (lN (an_c1 0))) 20 (8 * i + j) (lN (an_c2 0)) = ij_u (ij_u J 19 (8 * i + j) 2) 20 (8 * i + j) 2 := by
      funext q k
      by_cases e20 : q = 20
      · subst e20
        by_cases ek : k = 8 * i + j
        · rw [ek, ij_u_same, ij_u_same]; rfl
        · rw [ij_u_other _ _ _ _ ek, congrFun (ij_u_ne (by decide)) k, ij_u_other _ _ _ _ ek]
      · rw [ij_u_ne e20]
        by_cases e19 : q = 19
        · subst e19
          by_cases ek : k = 8 * i + j
          · rw [ek, ij_u_same, congrFun (ij_u_ne (by decide)) _, ij_u_same]; rfl
          · rw [ij_u_other _ _ _ _ ek]
        · rw [ij_u_ne e19]
    by_cases e1 : (i + 1) % p = j
    · have em : an_m p cs i j = cs i := if_pos e1
      refine fin (cs i) em (fun v τ hg => ?_)
      have ci := hc i hi
      have c10 := hcs i hi
      by_cases e0 : cs i = 0
      · rw [e0, two] at hg
        have q := rp_angles_12_6 (C := rk_call (d + 1)) (v := v) (τ := τ) I J (nI i) (nI j) hge
        rw [e8, mi, cli, cl, ci, nI_1] at q
        exact q v64 v64 np (by rw [e1]) (vp_in_nI (by omega) (by decide)) (by rw [e0]; rfl) hg
      · have q := rp_angles_12_5 (C := rk_call (d + 1)) (v := v) (τ := τ) (I' := I) (J' := ij_u (ij_u J 19 (8 * i + j) 2) 20 (8 * i + j) 2) I J (nI i) (nI j) hge
        rw [e8, mi, cli, cl, ci, show (2 : Int32) * nI (cs i) = nI (2 * cs i) from by rw [show (2 : Int32) = nI 2 from rfl, pk_mul], show (5040 : Int32) / nI (2 * cs i) = nI (5040 / (2 * cs i)) from by rw [show (5040 : Int32) = nI 5040 from rfl, pk_div (by decide) (by omega) (by omega)]] at q
        exact q v64 v64 np (by rw [e1]) (vp_in_nI (by omega) (by decide)) (nI_ne0 (by omega) (by omega)) (nI_ne0 (by omega) (by omega)) _ (rs_power (d := d) (a := 756605797) (q := an_P1) (by decide) (by decide) (by decide) (Nat.div_le_self _ _)) (rs_angle1 hi hjp hp e0 c10 hg rfl)
    · by_cases e2 : (j + 1) % p = i
      · have em : an_m p cs i j = cs j := by
          unfold an_m
          rw [if_neg e1, if_pos e2]
        refine fin (cs j) em (fun v τ hg => ?_)
        have cj := hc j hjp
        have c10 := hcs j hjp
        have n1 : ¬ nI ((i + 1) % p) = nI j := fun q => e1 ((nI_eq (by omega) (by omega)).mp q)
        by_cases e0 : cs j = 0
        · rw [e0, two] at hg
          have q := rp_angles_12_4 (C := rk_call (d + 1)) (v := v) (τ := τ) I J (nI i) (nI j) hge
          rw [e8, mi, mj, clj, cl, cj, nI_1] at q
          exact q v64 v64 np n1 np (by rw [e2]) (vp_in_nI (by omega) (by decide)) (by rw [e0]; rfl) hg
        · have q := rp_angles_12_3 (C := rk_call (d + 1)) (v := v) (τ := τ) (I' := I) (J' := ij_u (ij_u J 19 (8 * i + j) 2) 20 (8 * i + j) 2) I J (nI i) (nI j) hge
          rw [e8, mi, mj, clj, cl, cj, show (2 : Int32) * nI (cs j) = nI (2 * cs j) from by rw [show (2 : Int32) = nI 2 from rfl, pk_mul], show (5040 : Int32) / nI (2 * cs j) = nI (5040 / (2 * cs j)) from by rw [show (5040 : Int32) = nI 5040 from rfl, pk_div (by decide) (by omega) (by omega)]] at q
          exact q v64 v64 np n1 np (by rw [e2]) (vp_in_nI (by omega) (by decide)) (nI_ne0 (by omega) (by omega)) (nI_ne0 (by omega) (by omega)) _ (rs_power (d := d) (a := 756605797) (q := an_P1) (by decide) (by decide) (by decide) (Nat.div_le_self _ _)) (rs_angle1 hi hjp hp e0 c10 hg rfl)
      · have em : an_m p cs i j = 0 := by
          unfold an_m
          rw [if_neg e1, if_neg e2]
        refine fin 0 em (fun v τ hg => ?_)
        rw [two] at hg
        have n1 : ¬ nI ((i + 1) % p) = nI j := fun q => e1 ((nI_eq (by omega) (by omega)).mp q)
        have n2 : ¬ nI ((j + 1) % p) = nI i := fun q => e2 ((nI_eq (by omega) (by omega)).mp q)
        have q := rp_angles_12_2 (C := rk_call (d + 1)) (v := v) (τ := τ) I J (nI i) (nI j) hge
        rw [e8, mi, mj, cl, nI_1] at q
        exact q v64 v64 np n1 np n2 rfl hg
/-- the angles of a board, as the reference holds them -/
def an_t (p : Nat) (cs : Nat → Nat) (J : Nat → Nat → Int64) : Prop := ∀ i j, i < p → j < p → J 19 (8 * i + j) = lN (an_c1 (an_m p cs i j)) ∧ J 20 (8 * i + j) = lN (an_c2 (an_m p cs i j))
theorem rs_angles (hp3 : 3 ≤ p) (hp : p ≤ 8) (hcs : ∀ j, j < p → cs j < 10) (h1 : I 0 1 = nI p) (hc : ∀ j, j < p → I 1 j = nI (cs j)) (J : Nat → Nat → Int64) : ∃ J' : Nat → Nat → Int64, rk_call (d + 2) 21 [.ref 0] (rk_R, I, J) none (rk_R, I, J') ∧ an_t p cs J' ∧ ∀ q, q ≠ 19 → q ≠ 20 → J' q = J q := by
  have loop : ∀ (r i : Nat) (J : Nat → Nat → Int64), i + r = p → (∀ i' j, i' < i → j < p → J 19 (8 * i' + j) = lN (an_c1 (an_m p cs i' j)) ∧ J 20 (8 * i' + j) = lN (an_c2 (an_m p cs i' j))) → ∃ J' : Nat → Nat → Int64, rk_go (rk_call (d + 1)) 21 (2, [some (.ref 0), some (.int (nI i)), none, none, none, none], [], (rk_R, I, J)) none (rk_R, I, J') ∧ an_t p cs J' ∧ ∀ q, q ≠ 19 → q ≠ 20 → J' q = J q := by
    intro r
    induction r with
    | zero =>
      intro i J hi h
      have : i = p := by omega
      subst this
      exact ⟨J, rp_angles_2_0 I J _ (by rw [h1]; exact nI_le (Nat.le_refl i) (by omega)), fun i' j hi' hj => h i' j hi' hj, fun _ _ _ => rfl⟩
    | succ r ih =>
      intro i J hi h
      obtain ⟨J1, z1, z2, z3, z4⟩ := rs_ang12 (d := d) (cs := cs) (show i < p by omega) hp3 hp hcs h1 hc p 0 J (Nat.zero_add p)
      obtain ⟨J', k1, k2, k3⟩ := ih (i + 1) J1 (by omega) (fun i' j hi' hj => by
        by_cases e : i' = i
        · rw [e]; exact z2 j (Nat.zero_le j) hj
        · have z := z3 (8 * i' + j) (by omega)
          rw [z.1, z.2]
          exact h i' j (by omega) hj)
      exact ⟨J', rp_angles_2_1 I J _ (by rw [h1]; exact nI_ge (by omega) (by omega)) (z1 _ _ k1), k2, fun q a1 a2 => (k3 q a1 a2).trans (z4 q a1 a2)⟩
  obtain ⟨J', k1, k2, k3⟩ := loop p 0 J (Nat.zero_add p) (fun i' j hi' => absurd hi' (Nat.not_lt_zero i'))
  exact ⟨J', ij_cr_of (Nat.le_of_ble_eq_true rfl) (rp_angles_0_0 I J k1), k2, k3⟩
end AN2
