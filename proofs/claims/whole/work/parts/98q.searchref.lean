/-! ===== closed boards: the search, the reference's ===== -/
def cb_okb (n c i j : Nat) : Bool := c == 0 || (List.range n).all (fun x => c % cb_lap n i j x == 0)
/-- whether row j can stand behind the rows of a -/
def cb_st (n p : Nat) (cs : Nat → Nat) (a : List Nat) (j : Nat) : Bool := (a.length == 0 || cb_okb n (cs (a.length - 1)) (a.getD (a.length - 1) 0) j) && (!(a.length + 1 == p) || cb_okb n (cs (p - 1)) j (a.getD 0 0))
/-- the drafts that are come to, in their order: r rows more -/
def cb_lv (n p : Nat) (cs : Nat → Nat) : Nat → List Nat → List (List Nat)
  | 0, a => [a]
  | r + 1, a => (List.range (cb_q n)).flatMap (fun j => if cb_st n p cs a j then cb_lv n p cs r (a ++ [j]) else [])
/-- tries -/
def cb_try (n p : Nat) (cs : Nat → Nat) : Nat → List Nat → Nat
  | 0, _ => 0
  | r + 1, a => ((List.range (cb_q n)).map (fun j => 1 + if cb_st n p cs a j then cb_try n p cs r (a ++ [j]) else 0)).sum
theorem cb_mod {a p : Nat} (h0 : 0 < p) (ha : a < 2 ^ 31) (hp : p < 2 ^ 31) : nI a - nI a / nI p * nI p = nI (a % p) := by
  rw [pk_div ha h0 hp, pk_mul, pk_sub (Nat.div_mul_le_self a p)]
  congr 1
  have := Nat.mod_add_div a p
  rw [Nat.mul_comm] at this
  omega
/-- what the search needs to know -/
def cb_cx (n p : Nat) (cs : Nat → Nat) (I : Nat → Nat → Int32) : Prop := cb_rl n I ∧ I 0 1 = nI p ∧ ∀ j, j < p → I 1 j = nI (cs j)
def cb_fS (I I' : Nat → Nat → Int32) : Prop := ∀ p k, p ≠ 30 → p ≠ 32 → p ≠ 33 → p ≠ 34 → ¬ (p = 0 ∧ 54 ≤ k ∧ k ≤ 58) → I' p k = I p k
theorem cb_fS_refl (I : Nat → Nat → Int32) : cb_fS I I := fun _ _ _ _ _ _ _ => rfl
theorem cb_fS_trans {I I' I'' : Nat → Nat → Int32} (h : cb_fS I I') (h' : cb_fS I' I'') : cb_fS I I'' := fun p k a1 a2 a3 a4 a5 => (h' p k a1 a2 a3 a4 a5).trans (h p k a1 a2 a3 a4 a5)
theorem cb_cx_fS {n p : Nat} {cs : Nat → Nat} {I I' : Nat → Nat → Int32} (h : cb_fS I I') (hc : cb_cx n p cs I) : cb_cx n p cs I' := by
  obtain ⟨⟨c1, c2, c3⟩, c4, c5⟩ := hc
  exact ⟨⟨(h 0 53 (by decide) (by decide) (by decide) (by decide) (by omega)).trans c1, (h 0 52 (by decide) (by decide) (by decide) (by decide) (by omega)).trans c2, fun i hi x hx => (h 29 _ (by decide) (by decide) (by decide) (by decide) (by omega)).trans (c3 i hi x hx)⟩, (h 0 1 (by decide) (by decide) (by decide) (by decide) (by omega)).trans c4, fun j hj => (h 1 j (by decide) (by decide) (by decide) (by decide) (by omega)).trans (c5 j hj)⟩
section CB4
variable {d n p : Nat} {cs : Nat → Nat} {J : Nat → Nat → Int64} {I : Nat → Nat → Int32}
theorem cb_6' (a c : Nat) : 6 * nI a + nI c = nI (6 * a + c) := by
  rw [show (6 : Int32) = nI 6 from rfl, pk_mul]
  exact (Int32.ofNat_add _ _).symm
theorem rs_go {s i x : Nat} (hn : n < 7) (h : cb_rl n I) (hs : s < 8) (ha : I 30 s = nI i) (hi : i < cb_q n) (hx : x < n) : rk_call (d + 1) 56 [.ref 0, .int (nI s), .int (nI x)] (rk_R, I, J) (some (.int (nI (cb_r n i x)))) (rk_R, I, J) := by
  have q76 := cb_qs n hn
  have q := rp_go_0_0 (C := rk_call d) I J (nI s) (nI x) (vp_in_nI hs (by decide))
  rw [nI_clamp (by omega), ha, cb_6', nI_clamp (by omega), h.2.2 i hi x hx] at q
  exact ij_cr_of (Nat.le_of_ble_eq_true rfl) (q (vp_in_nI (by omega) (by decide)))
theorem rs_round22 {c i j x : Nat} (hn : n < 7) (hp0 : 0 < p) (hp : p ≤ 8) (h : cb_cx n p cs I) (hc : c < p) (hi : i < cb_q n) (hj : j < cb_q n) (ei : I 30 c = nI i) (ej : I 30 ((c + 1) % p) = nI j) (hx : x < n) : ∀ (r k y : Nat), y < n → k + r < 100 → (if y = x then k else cb_lw ((cb_T n).getD i []) ((cb_T n).getD j []) x r (k + 1) y) ≠ 0 → rk_go (rk_call (d + 1)) 57 (22, [some (.ref 0), some (.int (nI c)), some (.int (nI x)), some (.int (nI y)), some (.int (nI k))], [], (rk_R, I, J)) (some (.int (nI (if y = x then k else cb_lw ((cb_T n).getD i []) ((cb_T n).getD j []) x r (k + 1) y)))) (rk_R, I, J) := by
  intro r
  have hcp : (c + 1) % p < 8 := by have := Nat.mod_lt (c + 1) hp0; omega
  induction r with
  | zero =>
    intro k y hy hk hne
    by_cases e : y = x
    · rw [if_pos e]
      exact rp_round_22_0 I J _ _ _ _ (by rw [e])
    · rw [if_neg e] at hne
      exact absurd rfl hne
  | succ r ih =>
    intro k y hy hk hne
    by_cases e : y = x
    · rw [if_pos e]
      exact rp_round_22_0 I J _ _ _ _ (by rw [e])
    · rw [if_neg e] at hne ⊢
      have r1 := (cb_r_all hn hi hy).1
      have r2 := (cb_r_all hn hj r1).1
      have q := rp_round_22_1 (C := rk_call (d + 1)) (v := some (.int (nI (if cb_r n j (cb_r n i y) = x then k + 1 else cb_lw ((cb_T n).getD i []) ((cb_T n).getD j []) x r (k + 1 + 1) (cb_r n j (cb_r n i y)))))) (τ := (rk_R, I, J)) I J (nI c) (nI x) (nI y) (nI k) (fun q => e ((nI_eq (by omega) (by omega)).mp q)) (by rw [h.2.1]; exact nI_ne0 hp0 (by omega)) (nI (cb_r n i y)) (rs_go (d := d) hn h.1 (by omega) ei hi hy)
      rw [h.2.1, nI_1, cb_mod hp0 (by omega) (by omega)] at q
      refine q (rp_round_42_0 I J _ _ _ _ _ (nI (cb_r n j (cb_r n i y))) (rs_go (d := d) hn h.1 hcp ej hj r1) (rp_round_45_0 I J _ _ _ _ ?_))
      rw [nI_1]
      exact ih (k + 1) _ r2 (by omega) hne
theorem rs_round {c i j x : Nat} (hn : n < 7) (hp0 : 0 < p) (hp : p ≤ 8) (h : cb_cx n p cs I) (hc : c < p) (hi : i < cb_q n) (hj : j < cb_q n) (ei : I 30 c = nI i) (ej : I 30 ((c + 1) % p) = nI j) (hx : x < n) : rk_call (d + 2) 57 [.ref 0, .int (nI c), .int (nI x)] (rk_R, I, J) (some (.int (nI (cb_lap n i j x)))) (rk_R, I, J) := by
  have hcp : (c + 1) % p < 8 := by have := Nat.mod_lt (c + 1) hp0; omega
  have hl := cb_lap_le hn hi hj hx
  have r1 := (cb_r_all hn hi hx).1
  have r2 := (cb_r_all hn hj r1).1
  obtain ⟨m, rfl⟩ : ∃ m, n = m + 1 := ⟨n - 1, by omega⟩
  have e : cb_lap (m + 1) i j x = if cb_r (m + 1) j (cb_r (m + 1) i x) = x then 1 else cb_lw ((cb_T (m + 1)).getD i []) ((cb_T (m + 1)).getD j []) x m (1 + 1) (cb_r (m + 1) j (cb_r (m + 1) i x)) := rfl
  have k := rs_round22 (d := d) (J := J) hn hp0 hp h hc hi hj ei ej hx m 1 _ r2 (by omega) (by rw [← e]; omega)
  rw [← e] at k
  have q := rp_round_0_0 (C := rk_call (d + 1)) (v := some (.int (nI (cb_lap (m + 1) i j x)))) (τ := (rk_R, I, J)) I J (nI c) (nI x) (by rw [h.2.1]; exact nI_ne0 hp0 (by omega)) (nI (cb_r (m + 1) i x)) (rs_go (d := d) hn h.1 (by omega) ei hi hx)
  rw [h.2.1, nI_1, cb_mod hp0 (by omega) (by omega)] at q
  exact ij_cr_of (Nat.le_of_ble_eq_true rfl) (q (rp_round_15_0 I J _ _ _ _ (nI (cb_r (m + 1) j (cb_r (m + 1) i x))) (rs_go (d := d) hn h.1 hcp ej hj r1) (rp_round_18_0 I J _ _ _ k)))
theorem rs_isRound {c i j : Nat} (hn : n < 7) (hp0 : 0 < p) (hp : p ≤ 8) (h : cb_cx n p cs I) (hcs : ∀ j, j < p → cs j < 10) (hc : c < p) (hi : i < cb_q n) (hj : j < cb_q n) (ei : I 30 c = nI i) (ej : I 30 ((c + 1) % p) = nI j) : rk_call (d + 3) 58 [.ref 0, .int (nI c)] (rk_R, I, J) (some (.int (if cb_okb n (cs c) i j then 1 else 0))) (rk_R, I, J) := by
  have cl : (nI c).toNatClampNeg = c := nI_clamp (by omega)
  have e1 := h.2.2 c hc
  have hc10 := hcs c hc
  refine ij_cr_of (Nat.le_of_ble_eq_true rfl) ?_
  by_cases e0 : cs c = 0
  · have : cb_okb n (cs c) i j = true := by unfold cb_okb; rw [e0]; rfl
    rw [this, if_pos rfl]
    exact rp_isRound_0_1 I J (nI c) (vp_in_nI (by omega) (by decide)) (by rw [cl, e1, e0]; rfl)
  · refine rp_isRound_0_0 I J (nI c) (vp_in_nI (by omega) (by decide)) (by rw [cl, e1]; exact nI_ne0 (by omega) (by omega)) ?_
    have loop : ∀ (r x : Nat), x + r = n → (∀ y, y < x → cs c % cb_lap n i j y = 0) → rk_go (rk_call (d + 2)) 58 (13, [some (.ref 0), some (.int (nI c)), some (.int (nI x))], [], (rk_R, I, J)) (some (.int (if cb_okb n (cs c) i j then 1 else 0))) (rk_R, I, J) := by
      intro r
      induction r with
      | zero =>
        intro x hx hy
        have : x = n := by omega
        subst this
        have ok : cb_okb x (cs c) i j = true := by
          unfold cb_okb
          rw [Bool.or_eq_true]
          exact Or.inr (List.all_eq_true.mpr (fun y hm => beq_iff_eq.mpr (hy y (List.mem_range.mp hm))))
        rw [ok, if_pos rfl]
        exact rp_isRound_13_0 I J _ _ (by rw [h.1.1]; exact nI_le (Nat.le_refl x) (by omega))
      | succ r ih =>
        intro x hx hy
        have hl := cb_lap_le hn hi hj (x := x) (by omega)
        have q := rp_isRound_13_1 (C := rk_call (d + 2)) (v := some (.int (if cb_okb n (cs c) i j then 1 else 0))) (τ := (rk_R, I, J)) I J (nI c) (nI x) (by rw [h.1.1]; exact nI_ge (by omega) (by omega)) (vp_in_nI (by omega) (by decide)) (nI (cb_lap n i j x)) (rs_round (d := d) hn hp0 hp h hc hi hj ei ej (by omega))
        rw [cl, e1] at q
        refine q ?_
        have em := cb_mod (a := cs c) (p := cb_lap n i j x) (by omega) (by omega) (by omega)
        by_cases e : cs c % cb_lap n i j x = 0
        · refine rp_isRound_33_0 I J _ _ _ _ (nI_ne0 (by omega) (by omega)) (by rw [em, e]; rfl) ?_
          rw [nI_1]
          exact ih (x + 1) (by omega) (fun y hy' => by
            by_cases ey : y = x
            · rw [ey]; exact e
            · exact hy y (by omega))
        · have nok : cb_okb n (cs c) i j = false := by
            cases hb : cb_okb n (cs c) i j with
            | false => rfl
            | true =>
              unfold cb_okb at hb
              rw [Bool.or_eq_true] at hb
              rcases hb with hb | hb
              · exact absurd (beq_iff_eq.mp hb) e0
              · exact absurd (beq_iff_eq.mp (List.all_eq_true.mp hb x (List.mem_range.mpr (by omega)))) e
          rw [nok]
          exact rp_isRound_33_1 I J _ _ _ _ (nI_ne0 (by omega) (by omega)) (by rw [em]; exact fun q => e ((nI_eq (b := 0) (by have := Nat.mod_lt (cs c) (show 0 < cb_lap n i j x by omega); omega) (by decide)).mp q))
    exact loop n 0 (Nat.zero_add n) (fun y hy => absurd hy (Nat.not_lt_zero y))
/-- the rows of a draft, as the reference holds them -/
def cb_at (a : List Nat) (I : Nat → Nat → Int32) : Prop := ∀ k, k < a.length → I 30 k = nI (a.getD k 0)
theorem cb_at_app {a : List Nat} {j : Nat} (h : cb_at a I) (hj : I 30 a.length = nI j) : cb_at (a ++ [j]) I := fun k hk => by
  rw [List.length_append] at hk
  have hk' : k < a.length + 1 := hk
  by_cases e : k = a.length
  · subst e
    rw [hj, List.getD_eq_getElem?_getD, List.getElem?_append_right (Nat.le_refl _), Nat.sub_self]
    rfl
  · rw [h k (by omega), List.getD_eq_getElem?_getD, List.getD_eq_getElem?_getD, List.getElem?_append_left (by omega)]
theorem cb_at_pre {a : List Nat} {j : Nat} (h : cb_at (a ++ [j]) I) : cb_at a I ∧ I 30 a.length = nI j := by
  refine ⟨fun k hk => ?_, ?_⟩
  · rw [h k (by rw [List.length_append]; omega), List.getD_eq_getElem?_getD, List.getD_eq_getElem?_getD, List.getElem?_append_left hk]
  · rw [h a.length (by rw [List.length_append]; exact Nat.lt_succ_self _), List.getD_eq_getElem?_getD, List.getElem?_append_right (Nat.le_refl _), Nat.sub_self]
    rfl
theorem cb_m1 (j : Nat) : nI j + (-1) + 1 = nI j := by
  rw [Int32.add_assoc, show (-1 : Int32) + 1 = 0 from rfl, Int32.add_zero]
/-- a row that stands: what comes next -/
def cb_en (d : Nat) (J : Nat → Nat → Int64) (r s : Nat) (I : Nat → Nat → Int32) (v : Option Value) (τ : ij_S) : Prop := match r with
  | 0 => ∃ I', rk_call (d + 4) 62 [.ref 0] (rk_R, I, J) none (rk_R, I', J) ∧ rk_go (rk_call (d + 4)) 63 (143, [some (.ref 0), none, some (.int (nI s))], [], (rk_R, I', J)) v τ
  | _ + 1 => rk_go (rk_call (d + 4)) 63 (39, [some (.ref 0), none, some (.int (nI (s + 1)))], [], (rk_R, ij_u I 30 (s + 1) (-1), J)) v τ
theorem cb_st_iff {a : List Nat} {j : Nat} : cb_st n p cs a j = true ↔ (a.length = 0 ∨ cb_okb n (cs (a.length - 1)) (a.getD (a.length - 1) 0) j = true) ∧ (a.length + 1 = p → cb_okb n (cs (p - 1)) j (a.getD 0 0) = true) := by
  unfold cb_st
  rw [Bool.and_eq_true, Bool.or_eq_true, Bool.or_eq_true, beq_iff_eq, Bool.not_eq_true', beq_eq_false_iff_ne]
  constructor
  · rintro ⟨h1, h2⟩
    exact ⟨h1, fun e => h2.resolve_left (fun q => q e)⟩
  · rintro ⟨h1, h2⟩
    refine ⟨h1, ?_⟩
    by_cases e : a.length + 1 = p
    · exact Or.inr (h2 e)
    · exact Or.inl e
theorem rs_try1 {r j T : Nat} {a : List Nat} {v : Option Value} {τ : ij_S} (hn : n < 7) (hp3 : 3 ≤ p) (hp : p ≤ 8) (hcs : ∀ j, j < p → cs j < 10) (hal : a.length + r + 1 = p) (hab : ∀ k, k < a.length → a.getD k 0 < cb_q n) (hj : j < cb_q n) (hc : cb_cx n p cs I) (hat : cb_at a I) (h30 : I 30 a.length = nI j + (-1)) (h54 : I 0 54 = nI T) (hT : T < 300000)
    (hy : cb_st n p cs a j = true → cb_en d J r a.length (ij_u (ij_u I 30 a.length (nI j)) 0 54 (nI (T + 1))) v τ)
    (hno : ¬ cb_st n p cs a j = true → rk_go (rk_call (d + 4)) 63 (39, [some (.ref 0), none, some (.int (nI a.length))], [], (rk_R, ij_u (ij_u I 30 a.length (nI j)) 0 54 (nI (T + 1)), J)) v τ) :
    rk_go (rk_call (d + 4)) 63 (39, [some (.ref 0), none, some (.int (nI a.length))], [], (rk_R, I, J)) v τ := by
  have q76 := cb_qs n hn
  have cl : (nI a.length).toNatClampNeg = a.length := nI_clamp (by omega)
  have vs : vp_in (nI a.length) 8 := vp_in_nI (by omega) (by decide)
  have n0 : ¬ nI a.length < 0 := nI_pos (by omega)
  have hne : ¬ nI j = I 0 52 := by rw [hc.1.2.1]; exact fun q => absurd ((nI_eq (by omega) (by omega)).mp q) (by omega)
  have hnT : ¬ I 0 54 = 300000 := by rw [h54]; exact fun q => absurd ((nI_eq (b := 300000) (by omega) (by decide)).mp q) (by omega)
  have ep : I 0 1 - 1 = nI (p - 1) := by rw [hc.2.1]; exact nI_sub1 (by omega)
  have hc1 : cb_cx n p cs (ij_u (ij_u I 30 a.length (nI j)) 0 54 (nI (T + 1))) := cb_cx_fS (fun q k a1 _ _ _ a5 => (lb_u_at (fun e => a5 ⟨e.1, by omega, by omega⟩)).trans (lb_u_at (fun e => a1 e.1))) hc
  have hat1 : cb_at (a ++ [j]) (ij_u (ij_u I 30 a.length (nI j)) 0 54 (nI (T + 1))) := cb_at_app (fun k hk => by
    rw [congrFun (ij_u_ne (by decide)) k, ij_u_other _ _ _ _ (by omega)]
    exact hat k hk) (by rw [congrFun (ij_u_ne (by decide)) _, ij_u_same])
  have ep1 : ij_u (ij_u I 30 a.length (nI j)) 0 54 (nI (T + 1)) 0 1 - 1 = nI (p - 1) := by rw [hc1.2.1]; exact nI_sub1 (by omega)
  by_cases s0 : a.length = 0
  · -- the first side
    have ha : a = [] := List.length_eq_zero_iff.mp s0
    subst ha
    obtain ⟨r', rfl⟩ : ∃ r', r = r' + 1 := ⟨r - 1, by have h := hal; simp only [List.length_nil] at h; omega⟩
    have hp1 : ¬ nI ([] : List Nat).length = I 0 1 - 1 := by rw [ep]; exact fun q => absurd ((nI_eq (a := 0) (by decide) (by omega)).mp q) (by omega)
    have q := rp_seeks_39_1 (C := rk_call (d + 4)) (v := v) (τ := τ) I J (nI ([] : List Nat).length) n0 vs vs vs
    rw [cl, h30, cb_m1, ij_u_same, h54, nI_1, nI_1, nI_clamp (by show 0 + 1 < _; decide)] at q
    exact q hne (by rw [← h54]; exact hnT) (by decide) hp1 hp1 (vp_in_nI (by show 0 + 1 < 8; decide) (by decide)) (hy (cb_st_iff.mpr ⟨Or.inl rfl, fun e => by simp only [List.length_nil] at e; omega⟩))
  · have hs1 : 1 ≤ a.length := by omega
    have hle : ¬ nI a.length ≤ 0 := nI_ge (a := 0) (by omega) (by omega)
    have q := rp_seeks_39_4 (C := rk_call (d + 4)) (v := v) (τ := τ) (I' := ij_u (ij_u I 30 a.length (nI j)) 0 54 (nI (T + 1))) (J' := J) I J (nI a.length) n0 vs vs vs
    rw [cl, h30, cb_m1, ij_u_same, h54, nI_1, nI_sub1 hs1] at q
    have rd := rs_isRound (d := d + 1) (J := J) (c := a.length - 1) (i := a.getD (a.length - 1) 0) (j := j) hn (by omega) hp hc1 hcs (by omega) (hab _ (by omega)) hj (by
      rw [hat1 (a.length - 1) (by rw [List.length_append]; omega), List.getD_eq_getElem?_getD, List.getD_eq_getElem?_getD, List.getElem?_append_left (by omega)]) (by
      rw [show a.length - 1 + 1 = a.length by omega, Nat.mod_eq_of_lt (by omega)]
      exact (cb_at_pre hat1).2)
    refine q hne (by rw [← h54]; exact hnT) hle _ rd ?_
    by_cases ok1 : cb_okb n (cs (a.length - 1)) (a.getD (a.length - 1) 0) j = true
    · rw [if_pos ok1]
      by_cases last : a.length + 1 = p
      · have r0 : r = 0 := by omega
        subst r0
        have el : nI a.length = ij_u (ij_u I 30 a.length (nI j)) 0 54 (nI (T + 1)) 0 1 - 1 := by rw [ep1, show p - 1 = a.length by omega]
        have rd2 := rs_isRound (d := d + 1) (J := J) (c := a.length) (i := j) (j := a.getD 0 0) hn (by omega) hp hc1 hcs (by omega) hj (hab 0 (by omega)) (cb_at_pre hat1).2 (by
          rw [last, Nat.mod_self, hat1 0 (by rw [List.length_append]; omega), List.getD_eq_getElem?_getD, List.getD_eq_getElem?_getD, List.getElem?_append_left (by omega)])
        refine rp_seeks_105_3 _ J (nI a.length) 1 (by decide) el _ rd2 ?_
        by_cases ok2 : cb_okb n (cs (p - 1)) j (a.getD 0 0) = true
        · rw [show a.length = p - 1 by omega, if_pos ok2, ← show a.length = p - 1 by omega]
          obtain ⟨I', k1, k2⟩ := hy (cb_st_iff.mpr ⟨Or.inr ok1, fun _ => ok2⟩)
          exact rp_seeks_123_1 _ J (nI a.length) 1 (by decide) el k1 k2
        · rw [show a.length = p - 1 by omega, if_neg ok2, ← show a.length = p - 1 by omega]
          exact rp_seeks_123_2 _ J (nI a.length) 0 rfl (hno (fun q => ok2 ((cb_st_iff.mp q).2 last)))
      · obtain ⟨r', rfl⟩ : ∃ r', r = r' + 1 := ⟨r - 1, by omega⟩
        have nl : ¬ nI a.length = ij_u (ij_u I 30 a.length (nI j)) 0 54 (nI (T + 1)) 0 1 - 1 := by rw [ep1]; exact fun q => absurd ((nI_eq (by omega) (by omega)).mp q) (by omega)
        have q2 := rp_seeks_105_1 (C := rk_call (d + 4)) (v := v) (τ := τ) (ij_u (ij_u I 30 a.length (nI j)) 0 54 (nI (T + 1))) J (nI a.length) 1 (by decide) nl nl
        rw [nI_1, nI_clamp (by omega)] at q2
        exact q2 (vp_in_nI (by omega) (by decide)) (hy (cb_st_iff.mpr ⟨Or.inr ok1, fun e => absurd e last⟩))
    · rw [if_neg ok1]
      exact rp_seeks_105_0 _ J (nI a.length) 0 rfl (hno (fun q => ok1 ((cb_st_iff.mp q).1.resolve_left s0)))
/-- one level of the search: rows j on, behind those of a; r levels below -/
theorem rs_lev {Inv : List (List Nat) → (Nat → Nat → Int32) → Prop} (hn : n < 7) (hp3 : 3 ≤ p) (hp : p ≤ 8) (hcs : ∀ j, j < p → cs j < 10)
    (hI : ∀ l I I', (∀ q k, q ≠ 30 → ¬ (q = 0 ∧ k = 54) → I' q k = I q k) → Inv l I → Inv l I') {r : Nat} {a : List Nat} (hal : a.length + r + 1 = p) (hab : ∀ k, k < a.length → a.getD k 0 < cb_q n)
    (sub : ∀ (j T : Nat) (l : List (List Nat)) (I : Nat → Nat → Int32), j < cb_q n → cb_cx n p cs I → cb_at (a ++ [j]) I → I 0 54 = nI T → T ≤ 300000 → Inv l I → cb_st n p cs a j = true →
      (T + cb_try n p cs r (a ++ [j]) ≤ 300000 → ∃ I', cb_at (a ++ [j]) I' ∧ I' 0 54 = nI (T + cb_try n p cs r (a ++ [j])) ∧ Inv (l ++ cb_lv n p cs r (a ++ [j])) I' ∧ cb_fS I I' ∧ ∀ v τ, rk_go (rk_call (d + 4)) 63 (39, [some (.ref 0), none, some (.int (nI a.length))], [], (rk_R, I', J)) v τ → cb_en d J r a.length I v τ) ∧
      (300000 < T + cb_try n p cs r (a ++ [j]) → ∃ I', cb_fS I I' ∧ cb_en d J r a.length I (some (.int 0)) (rk_R, I', J))) :
    ∀ (e j T : Nat) (l : List (List Nat)) (I : Nat → Nat → Int32), j + e = cb_q n → cb_cx n p cs I → cb_at a I → I 30 a.length = nI j + (-1) → I 0 54 = nI T → T ≤ 300000 → Inv l I →
      (T + ((List.range' j e).map (fun j => 1 + if cb_st n p cs a j then cb_try n p cs r (a ++ [j]) else 0)).sum ≤ 300000 → ∃ I', cb_at a I' ∧ I' 0 54 = nI (T + ((List.range' j e).map (fun j => 1 + if cb_st n p cs a j then cb_try n p cs r (a ++ [j]) else 0)).sum) ∧ Inv (l ++ (List.range' j e).flatMap (fun j => if cb_st n p cs a j then cb_lv n p cs r (a ++ [j]) else [])) I' ∧ cb_fS I I' ∧ ∀ v τ, rk_go (rk_call (d + 4)) 63 (39, [some (.ref 0), none, some (.int (nI a.length + (-1)))], [], (rk_R, I', J)) v τ → rk_go (rk_call (d + 4)) 63 (39, [some (.ref 0), none, some (.int (nI a.length))], [], (rk_R, I, J)) v τ) ∧
      (300000 < T + ((List.range' j e).map (fun j => 1 + if cb_st n p cs a j then cb_try n p cs r (a ++ [j]) else 0)).sum → ∃ I', cb_fS I I' ∧ rk_go (rk_call (d + 4)) 63 (39, [some (.ref 0), none, some (.int (nI a.length))], [], (rk_R, I, J)) (some (.int 0)) (rk_R, I', J)) := by
  have q76 := cb_qs n hn
  intro e
  induction e with
  | zero =>
    intro j T l I hj hc hat h30 h54 hT hInv
    have ej : j = cb_q n := by omega
    subst ej
    refine ⟨fun _ => ⟨ij_u I 30 a.length (nI (cb_q n)), fun k hk => (ij_u_other _ _ _ _ (by omega)).trans (hat k hk), h54, ?_, fun q k a1 _ _ _ _ => lb_u_at (fun e => a1 e.1), fun v τ hg => ?_⟩, fun q => ?_⟩
    · rw [show (List.range' (cb_q n) 0).flatMap _ = ([] : List (List Nat)) from rfl, List.append_nil]
      exact hI l I _ (fun q k a1 _ => lb_u_at (fun e => a1 e.1)) hInv
    · have q := rp_seeks_39_6 (C := rk_call (d + 4)) (v := v) (τ := τ) I J (nI a.length) (nI_pos (by omega)) (vp_in_nI (by omega) (by decide)) (vp_in_nI (by omega) (by decide)) (vp_in_nI (by omega) (by decide))
      rw [nI_clamp (by omega), h30, cb_m1, ij_u_same] at q
      exact q hc.1.2.1.symm hg
    · exact absurd q (by show ¬ 300000 < T + 0; omega)
  | succ e ihe =>
    intro j T l I hj hc hat h30 h54 hT hInv
    rw [List.range'_succ, List.map_cons, List.sum_cons, List.flatMap_cons]
    by_cases hT3 : T = 300000
    · refine ⟨fun q => by omega, fun _ => ⟨ij_u I 30 a.length (nI j), fun q k a1 _ _ _ _ => lb_u_at (fun e => a1 e.1), ?_⟩⟩
      have q := rp_seeks_39_5 (C := rk_call (d + 4)) I J (nI a.length) (nI_pos (by omega)) (vp_in_nI (by omega) (by decide)) (vp_in_nI (by omega) (by decide)) (vp_in_nI (by omega) (by decide))
      rw [nI_clamp (by omega), h30, cb_m1, ij_u_same] at q
      exact q (by rw [hc.1.2.1]; exact fun q => absurd ((nI_eq (by omega) (by omega)).mp q) (by omega)) (by rw [h54, hT3]; rfl)
    have hT1 : T < 300000 := by omega
    have fS1 : cb_fS I (ij_u (ij_u I 30 a.length (nI j)) 0 54 (nI (T + 1))) := fun q k a1 _ _ _ a5 => (lb_u_at (fun e => a5 ⟨e.1, by omega, by omega⟩)).trans (lb_u_at (fun e => a1 e.1))
    have hc1 := cb_cx_fS fS1 hc
    have hat0 : cb_at a (ij_u (ij_u I 30 a.length (nI j)) 0 54 (nI (T + 1))) := fun k hk => by
      rw [congrFun (ij_u_ne (by decide)) k, ij_u_other _ _ _ _ (by omega)]
      exact hat k hk
    have e30 : ij_u (ij_u I 30 a.length (nI j)) 0 54 (nI (T + 1)) 30 a.length = nI j := by rw [congrFun (ij_u_ne (by decide)) _, ij_u_same]
    have hat1 : cb_at (a ++ [j]) (ij_u (ij_u I 30 a.length (nI j)) 0 54 (nI (T + 1))) := cb_at_app hat0 e30
    have hI1 : Inv l (ij_u (ij_u I 30 a.length (nI j)) 0 54 (nI (T + 1))) := hI l I _ (fun q k a1 a2 => (lb_u_at a2).trans (lb_u_at (fun e => a1 e.1))) hInv
    have em1 : nI j = nI (j + 1) + (-1) := (nI_dec j).symm
    by_cases st : cb_st n p cs a j = true
    · obtain ⟨s1, s2⟩ := sub j (T + 1) l _ (by omega) hc1 hat1 rfl (by omega) hI1 st
      rw [if_pos st, if_pos st]
      by_cases hle : T + 1 + cb_try n p cs r (a ++ [j]) ≤ 300000
      · obtain ⟨I1, k1, k2, k3, k4, k5⟩ := s1 hle
        obtain ⟨k1a, k1b⟩ := cb_at_pre k1
        obtain ⟨m1, m2⟩ := ihe (j + 1) (T + 1 + cb_try n p cs r (a ++ [j])) (l ++ cb_lv n p cs r (a ++ [j])) I1 (by omega) (cb_cx_fS k4 hc1) k1a (by rw [k1b]; exact em1) k2 hle k3
        have go : ∀ v τ, rk_go (rk_call (d + 4)) 63 (39, [some (.ref 0), none, some (.int (nI a.length))], [], (rk_R, I1, J)) v τ → rk_go (rk_call (d + 4)) 63 (39, [some (.ref 0), none, some (.int (nI a.length))], [], (rk_R, I, J)) v τ := fun v τ hg =>
          rs_try1 hn hp3 hp hcs hal hab (by omega) hc hat h30 h54 hT1 (fun _ => k5 v τ hg) (fun q => absurd st q)
        rw [Nat.add_assoc T 1, ] at m1 m2
        refine ⟨fun hs => ?_, fun hs => ?_⟩
        · obtain ⟨I', z1, z2, z3, z4, z5⟩ := m1 (by omega)
          refine ⟨I', z1, ?_, ?_, cb_fS_trans fS1 (cb_fS_trans k4 z4), fun v τ hg => go v τ (z5 v τ hg)⟩
          · rw [z2]
            congr 1
            omega
          · rw [← List.append_assoc]
            exact z3
        · obtain ⟨I', z1, z2⟩ := m2 (by omega)
          exact ⟨I', cb_fS_trans fS1 (cb_fS_trans k4 z1), go _ _ z2⟩
      · refine ⟨fun q => absurd q (by omega), fun _ => ?_⟩
        obtain ⟨I', z1, z2⟩ := s2 (by omega)
        exact ⟨I', cb_fS_trans fS1 z1, rs_try1 hn hp3 hp hcs hal hab (by omega) hc hat h30 h54 hT1 (fun _ => z2) (fun q => absurd st q)⟩
    · rw [if_neg st, if_neg st, List.nil_append]
      obtain ⟨m1, m2⟩ := ihe (j + 1) (T + 1) l _ (by omega) hc1 hat0 (e30.trans em1) rfl (by omega) hI1
      have go : ∀ v τ, rk_go (rk_call (d + 4)) 63 (39, [some (.ref 0), none, some (.int (nI a.length))], [], (rk_R, ij_u (ij_u I 30 a.length (nI j)) 0 54 (nI (T + 1)), J)) v τ → rk_go (rk_call (d + 4)) 63 (39, [some (.ref 0), none, some (.int (nI a.length))], [], (rk_R, I, J)) v τ := fun v τ hg =>
        rs_try1 hn hp3 hp hcs hal hab (by omega) hc hat h30 h54 hT1 (fun q => absurd q st) (fun _ => hg)
      refine ⟨fun hs => ?_, fun hs => ?_⟩
      · obtain ⟨I', z1, z2, z3, z4, z5⟩ := m1 (by omega)
        refine ⟨I', z1, ?_, z3, cb_fS_trans fS1 z4, fun v τ hg => go v τ (z5 v τ hg)⟩
        rw [z2]
        congr 1
        omega
      · obtain ⟨I', z1, z2⟩ := m2 (by omega)
        exact ⟨I', cb_fS_trans fS1 z1, go _ _ z2⟩
theorem rs_dfs {Inv : List (List Nat) → (Nat → Nat → Int32) → Prop} (hn : n < 7) (hp3 : 3 ≤ p) (hp : p ≤ 8) (hcs : ∀ j, j < p → cs j < 10)
    (hI : ∀ l I I', (∀ q k, q ≠ 30 → ¬ (q = 0 ∧ k = 54) → I' q k = I q k) → Inv l I → Inv l I')
    (hL : ∀ l a I, a.length = p → (∀ k, k < p → a.getD k 0 < cb_q n) → cb_cx n p cs I → cb_at a I → Inv l I → ∃ I', rk_call (d + 4) 62 [.ref 0] (rk_R, I, J) none (rk_R, I', J) ∧ Inv (l ++ [a]) I' ∧ (∀ q k, q ≠ 32 → q ≠ 33 → q ≠ 34 → ¬ (q = 0 ∧ 55 ≤ k ∧ k ≤ 58) → I' q k = I q k)) :
    ∀ (r : Nat) (a : List Nat), a.length + r + 1 = p → (∀ k, k < a.length → a.getD k 0 < cb_q n) → ∀ (T : Nat) (l : List (List Nat)) (I : Nat → Nat → Int32), cb_cx n p cs I → cb_at a I → I 30 a.length = -1 → I 0 54 = nI T → T ≤ 300000 → Inv l I →
      (T + cb_try n p cs (r + 1) a ≤ 300000 → ∃ I', cb_at a I' ∧ I' 0 54 = nI (T + cb_try n p cs (r + 1) a) ∧ Inv (l ++ cb_lv n p cs (r + 1) a) I' ∧ cb_fS I I' ∧ ∀ v τ, rk_go (rk_call (d + 4)) 63 (39, [some (.ref 0), none, some (.int (nI a.length + (-1)))], [], (rk_R, I', J)) v τ → rk_go (rk_call (d + 4)) 63 (39, [some (.ref 0), none, some (.int (nI a.length))], [], (rk_R, I, J)) v τ) ∧
      (300000 < T + cb_try n p cs (r + 1) a → ∃ I', cb_fS I I' ∧ rk_go (rk_call (d + 4)) 63 (39, [some (.ref 0), none, some (.int (nI a.length))], [], (rk_R, I, J)) (some (.int 0)) (rk_R, I', J)) := by
  intro r
  induction r with
  | zero =>
    intro a hal hab T l I hc hat h30 h54 hT hInv
    have k := rs_lev (d := d) (J := J) (Inv := Inv) (r := 0) hn hp3 hp hcs hI hal hab (fun j T l I hj hc hat1 h54 hT hInv st => by
      refine ⟨fun _ => ?_, fun q => absurd q (by show ¬ 300000 < T + 0; omega)⟩
      obtain ⟨I', g1, g2, g3⟩ := hL l (a ++ [j]) I (by rw [List.length_append]; exact hal) (fun k hk => by
        by_cases e : k < a.length
        · rw [List.getD_eq_getElem?_getD, List.getElem?_append_left e, ← List.getD_eq_getElem?_getD]
          exact hab k e
        · have : k = a.length := by omega
          subst this
          rw [List.getD_eq_getElem?_getD, List.getElem?_append_right (Nat.le_refl _), Nat.sub_self]
          exact hj) hc hat1 hInv
      refine ⟨I', fun k hk => (g3 30 k (by decide) (by decide) (by decide) (by omega)).trans (hat1 k hk), (g3 0 54 (by decide) (by decide) (by decide) (by omega)).trans h54, g2, fun q k a1 a2 a3 a4 a5 => g3 q k a2 a3 a4 (by omega), fun v τ hg => ⟨I', g1, rp_seeks_143_0 I' J (nI a.length) hg⟩⟩) (cb_q n) 0 T l I (Nat.zero_add _) hc hat (by rw [h30]; rfl) h54 hT hInv
    rw [← List.range_eq_range'] at k
    exact k
  | succ r ih =>
    intro a hal hab T l I hc hat h30 h54 hT hInv
    have k := rs_lev (d := d) (J := J) (Inv := Inv) (r := r + 1) hn hp3 hp hcs hI (by omega) hab (fun j T l I hj hc hat1 h54 hT hInv st => by
      have hl : (a ++ [j]).length = a.length + 1 := by rw [List.length_append]; rfl
      have fS0 : cb_fS I (ij_u I 30 (a.length + 1) (-1)) := fun q k a1 _ _ _ _ => lb_u_at (fun e => a1 e.1)
      obtain ⟨k1, k2⟩ := ih (a ++ [j]) (by rw [hl]; omega) (fun k hk => by
        rw [hl] at hk
        by_cases e : k < a.length
        · rw [List.getD_eq_getElem?_getD, List.getElem?_append_left e, ← List.getD_eq_getElem?_getD]
          exact hab k e
        · have : k = a.length := by omega
          subst this
          rw [List.getD_eq_getElem?_getD, List.getElem?_append_right (Nat.le_refl _), Nat.sub_self]
          exact hj) T l (ij_u I 30 (a.length + 1) (-1)) (cb_cx_fS fS0 hc) (fun k hk => by
        rw [ij_u_other _ _ _ _ (by rw [hl] at hk; omega)]
        exact hat1 k hk) (by rw [hl, ij_u_same]) h54 hT (hI l I _ (fun q k a1 _ => lb_u_at (fun e => a1 e.1)) hInv)
      rw [hl] at k1 k2
      refine ⟨fun q => ?_, fun q => ?_⟩
      · obtain ⟨I', z1, z2, z3, z4, z5⟩ := k1 q
        refine ⟨I', z1, z2, z3, cb_fS_trans fS0 z4, fun v τ hg => z5 v τ ?_⟩
        rw [nI_dec]
        exact hg
      · obtain ⟨I', z1, z2⟩ := k2 q
        exact ⟨I', cb_fS_trans fS0 z1, z2⟩) (cb_q n) 0 T l I (Nat.zero_add _) hc hat (by rw [h30]; rfl) h54 hT hInv
    rw [← List.range_eq_range'] at k
    exact k
end CB4
