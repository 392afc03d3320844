/-! ===== all words of a board: what the check says ===== -/
section CK1
variable {p : Nat} {cs : Nat → Nat} {cl ct lam : List Nat}
/-- an accepted word is known as accepted -/
theorem wq_acc (hp3 : 3 ≤ p) (hcs : ∀ j, j < p → cs j < 10 ∧ cs j ≠ 1) : ∀ (w : List Nat) (q : wd_q), wd_t p cs w = some q → w ≠ [] → wq p cs w = (q.2.1, q.2.2.1, (if q.2.2.2 = true then 1 else 0), 1) ∧ hdw p w = q.1 ∧ q.1 < p ∧ w ∈ gw p (w.length - 1) q.1 := by
  intro w
  induction w with
  | nil => intro q _ h; exact absurd rfl h
  | cons y w ih =>
    intro q hq _
    obtain ⟨q', k1, k2, k3⟩ := wd_uncons hq
    obtain ⟨o1, o2, o3, o4⟩ := wd_o_iff.mp k2
    obtain ⟨n1, n2, n3, n4, n5⟩ := nb_sides hp3 o1
    cases w with
    | nil =>
      have e : q' = (p, 0, 0, false) := (Option.some.inj k1).symm
      subst e
      subst k3
      refine ⟨?_, rfl, o1, List.mem_singleton.mpr rfl⟩
      have l1 : wd_l p (p, 0, 0, false) y = 1 := by
        unfold wd_l
        by_cases c : y = (p + 1) % p
        · rw [if_pos c]
        · rw [if_neg c]
      have r1 : wd_r p (p, 0, 0, false) y = 1 := by
        unfold wd_r
        rw [if_neg (show ¬ (y + 1) % p = p by omega), if_neg (show ¬ (false = true ∧ (y + 2) % p = p) from fun z => absurd z.1 (by decide))]
      show (1, 1, 0, 1) = (wd_l p (p, 0, 0, false) y, wd_r p (p, 0, 0, false) y, (if (decide (cs ((y + p - 1) % p) ≠ 0) && decide (wd_l p (p, 0, 0, false) y = cs ((y + p - 1) % p))) = true then 1 else 0), 1)
      rw [l1, r1]
      have b0 : (decide (cs ((y + p - 1) % p) ≠ 0) && decide (1 = cs ((y + p - 1) % p))) = false := by
        rw [decide_eq_false (show ¬ 1 = cs ((y + p - 1) % p) from fun z => (hcs _ n5).2 z.symm), Bool.and_false]
      rw [b0]; rfl
    | cons d w =>
      obtain ⟨i1, i2, i3, i4⟩ := ih q' k1 (by simp)
      have i2' : d = q'.1 := i2
      rw [wq_cons (by simp), i1]
      subst k3
      obtain ⟨d', hl', hr', b'⟩ := q'
      have i2'' : d = d' := i2'
      subst i2''
      have hdp : d < p := i3
      have i4' : d :: w ∈ gw p ((d :: w).length - 1) d := i4
      have o2' : y ≠ d := o2
      have o3' : ¬ (b' = true ∧ (y + 1) % p = d) := o3
      have eqv : d = (y + p - 1) % p ↔ y = (d + 1) % p := by
        constructor
        · intro e; rw [e, md_3 o1]
        · intro e
          rcases md_1 hdp with ⟨x1, x2⟩ | ⟨x1, x2⟩ <;> rcases md_2 o1 with ⟨x3, x4⟩ | ⟨x3, x4⟩ <;> omega
      have el : wq_l p y d (hl', hr', (if b' = true then 1 else 0), 1) = wd_l p (d, hl', hr', b') y := by
        show 1 + (if d = (y + p - 1) % p then hr' else 0) = (if y = (d + 1) % p then hr' else 0) + 1
        by_cases c : y = (d + 1) % p
        · rw [if_pos (eqv.mpr c), if_pos c]; omega
        · rw [if_neg (fun z => c (eqv.mp z)), if_neg c]
      have n12 : (y + 1) % p ≠ (y + 2) % p := fun e => by
        have e2 : (y + 2) % p = ((y + 1) % p + 1) % p := by rw [Nat.mod_add_mod]
        rw [e2] at e
        rcases md_1 n4 with ⟨x1, x2⟩ | ⟨x1, x2⟩ <;> omega
      have er : wq_r p y d (hl', hr', (if b' = true then 1 else 0), 1) = wd_r p (d, hl', hr', b') y := by
        show 1 + ((if d = (y + 1) % p then hl' else 0) + (if d = (y + 2) % p then (if b' = true then 1 else 0) else 0)) = (if (y + 1) % p = d then hl' else if b' = true ∧ (y + 2) % p = d then 1 else 0) + 1
        by_cases c : (y + 1) % p = d
        · rw [if_pos c.symm, if_pos c, if_neg (fun z => n12 (c.trans z))]; omega
        · rw [if_neg (fun z => c z.symm), if_neg c]
          by_cases c2 : (y + 2) % p = d
          · rw [if_pos c2.symm]
            by_cases c3 : b' = true
            · rw [if_pos c3, if_pos ⟨c3, c2⟩]
            · rw [if_neg c3, if_neg (fun z => c3 z.1)]
          · rw [if_neg (fun z => c2 z.symm), if_neg (fun z => c2 z.2)]
      refine ⟨?_, rfl, o1, ?_⟩
      · show (wq_l p y d (hl', hr', (if b' = true then 1 else 0), 1), wq_r p y d (hl', hr', (if b' = true then 1 else 0), 1), wq_b p cs y d (hl', hr', (if b' = true then 1 else 0), 1), wq_a p cs y d (hl', hr', (if b' = true then 1 else 0), 1)) = (wd_l p (d, hl', hr', b') y, wd_r p (d, hl', hr', b') y, (if (decide (cs ((y + p - 1) % p) ≠ 0) && decide (wd_l p (d, hl', hr', b') y = cs ((y + p - 1) % p))) = true then 1 else 0), 1)
        have eb : wq_b p cs y d (hl', hr', (if b' = true then 1 else 0), 1) = if (decide (cs ((y + p - 1) % p) ≠ 0) && decide (wd_l p (d, hl', hr', b') y = cs ((y + p - 1) % p))) = true then 1 else 0 := by
          unfold wq_b
          rw [el]
          by_cases c : cs ((y + p - 1) % p) = 0
          · rw [if_pos c, decide_eq_false (fun z => z c), Bool.false_and, if_neg (by decide)]
          · rw [if_neg c, decide_eq_true c, Bool.true_and]
            by_cases c2 : wd_l p (d, hl', hr', b') y = cs ((y + p - 1) % p)
            · rw [if_pos c2, decide_eq_true c2, if_pos rfl]
            · rw [if_neg c2, decide_eq_false c2, if_neg (by decide)]
        have ez : wq_z p y d (hl', hr', (if b' = true then 1 else 0), 1) = 1 := by
          show 1 - (if d = (y + 1) % p then 1 &&& (if b' = true then 1 else 0) else 0) = 1
          by_cases c : d = (y + 1) % p
          · rw [if_pos c, if_neg (fun z => o3' ⟨z, c.symm⟩)]; rfl
          · rw [if_neg c]
        have ea : wq_a p cs y d (hl', hr', (if b' = true then 1 else 0), 1) = 1 := by
          unfold wq_a
          rw [ez, er]
          by_cases c : cs y = 0
          · rw [if_pos c]
          · rw [if_neg c, if_neg (fun z => o4 ⟨c, z⟩)]; rfl
        rw [el, er, eb, ea]
      · show y :: d :: w ∈ gw p ((d :: w).length + 1 - 1) y
        rw [show (d :: w).length + 1 - 1 = ((d :: w).length - 1) + 1 by rw [List.length_cons]; omega]
        exact List.mem_map.mpr ⟨d :: w, (gcut_mem p).mpr ⟨d, hdp, fun z => o2' z.symm, i4'⟩, rfl⟩
theorem lw_mem : ∀ (K k j : Nat) {w : List Nat}, j < K → w ∈ aw p (k + j) → w ∈ lw p k K := by
  intro K
  induction K with
  | zero => intro k j w h; omega
  | succ K ih =>
    intro k j w h hw
    show w ∈ aw p k ++ lw p (k + 1) K
    cases j with
    | zero => exact List.mem_append_left _ hw
    | succ j => exact List.mem_append_right _ (ih (k + 1) j (by omega) (by rw [show k + 1 + j = k + (j + 1) by omega]; exact hw))
theorem lw_aw : ∀ (K k : Nat) {w : List Nat}, w ∈ lw p k K → ∃ j, j < K ∧ w ∈ aw p (k + j) := by
  intro K
  induction K with
  | zero => intro k w h; exact absurd h List.not_mem_nil
  | succ K ih =>
    intro k w h
    rcases List.mem_append.mp h with h | h
    · exact ⟨0, by omega, h⟩
    · obtain ⟨j, j1, j2⟩ := ih (k + 1) h
      exact ⟨j + 1, by omega, by rw [show k + (j + 1) = k + 1 + j by omega]; exact j2⟩
theorem bt_in_ok {N S : Nat} : ∀ (r : Nat) (k : Nat), (0 < r → k = 2 ^ (r - 1)) → ∀ s, s ∈ bt_in N S r k → ∃ i, i < r ∧ s.1 = 2 ^ i := by
  intro r
  induction r with
  | zero => intro k _ s h; exact absurd h List.not_mem_nil
  | succ r ih =>
    intro k hk s h
    have hk' := hk (by omega)
    rw [Nat.add_sub_cancel] at hk'
    rcases List.mem_cons.mp h with h | h
    · rw [h]; exact ⟨r, by omega, hk'⟩
    · obtain ⟨i, i1, i2⟩ := ih (k / 2) (fun r0 => by
        obtain ⟨r', e⟩ : ∃ r', r = r' + 1 := ⟨r - 1, by omega⟩
        rw [hk', e, Nat.add_sub_cancel, Nat.pow_succ, Nat.mul_div_cancel _ (by decide)]) s h
      exact ⟨i, by omega, i2⟩
theorem bt_ok {N : Nat} : ∀ (r a : Nat), ∀ s, s ∈ bt_all N r a → ∃ i, i < a + r ∧ s.1 = 2 ^ i := by
  intro r
  induction r with
  | zero => intro a s h; exact absurd h List.not_mem_nil
  | succ r ih =>
    intro a s h
    rcases List.mem_append.mp h with h | h
    · obtain ⟨i, i1, i2⟩ := bt_in_ok (a + 1) (2 ^ a) (fun _ => by rw [Nat.add_sub_cancel]) s h
      exact ⟨i, by omega, i2⟩
    · obtain ⟨i, i1, i2⟩ := ih (a + 1) s h
      exact ⟨i, by omega, i2⟩
theorem pwc_eq (hct : ∀ y, y < p → ct.getD y 2 = an_c1 (cs y)) {y j : Nat} (hy : y < p) (hj : j < p) (hne : j ≠ y) : pwc p ct y j = an_c1 (an_m p cs y j) := by
  unfold pwc an_m
  rw [if_neg hne]
  by_cases c : (y + 1) % p = j
  · rw [if_pos c, if_pos c]; exact hct y hy
  · rw [if_neg c, if_neg c]
    by_cases c2 : (j + 1) % p = y
    · rw [if_pos c2, if_pos c2]; exact hct j hj
    · rw [if_neg c2, if_neg c2]; rfl
theorem pmu_cg (hct : ∀ y, y < p → ct.getD y 2 = an_c1 (cs y)) {i : Nat} (hi : i < p) : ∀ q, q ≤ p → cg an_P1 (pmu p ct lam i q) (sI (fun j => (lam.getD j 0 : Int) * wa p cs i j) q) := by
  intro q
  induction q with
  | zero => intro _; exact cg_refl _ _
  | succ q ih =>
    intro hq
    refine cg_trans (cg_mod an_P1 (pmu p ct lam i q + lam.getD q 0 * (if i = q then 2147478479 else pwc p ct i q))) ?_
    rw [Int.natCast_add, Int.natCast_mul]
    refine cg_add (ih (by omega)) (cg_mul _ ?_)
    unfold wa
    by_cases c : i = q
    · rw [if_pos c, if_pos c]
      exact ⟨1, by unfold an_P1; omega⟩
    · rw [if_neg c, if_neg c, pwc_eq hct hi (by omega) (fun z => c z.symm)]
      exact cg_refl _ _
theorem plam_cg : ∀ q, cg an_P1 (plam lam q) (sI (fun j => (lam.getD j 0 : Int)) q) := by
  intro q
  induction q with
  | zero => exact cg_refl _ _
  | succ q ih =>
    refine cg_trans (cg_mod an_P1 (plam lam q + lam.getD q 0)) ?_
    rw [Int.natCast_add]
    exact cg_add ih (cg_refl _ _)
theorem pmu_lt (i : Nat) (hp : 0 < p) : pmu p ct lam i p < 2147478481 := by
  obtain ⟨q, e⟩ : ∃ q, p = q + 1 := ⟨p - 1, by omega⟩
  rw [show pmu p ct lam i p = pmu p ct lam i (q + 1) by rw [← e]]
  exact Nat.mod_lt _ (by decide)
theorem plam_lt (hp : 0 < p) : plam lam p < 2147478481 := by
  obtain ⟨q, e⟩ : ∃ q, p = q + 1 := ⟨p - 1, by omega⟩
  rw [e]
  exact Nat.mod_lt _ (by decide)
/-- the hash hangs on the vector alone -/
theorem wH_v (hp3 : 3 ≤ p) (hp : p ≤ 8) (hct : ∀ y, y < p → ct.getD y 2 = an_c1 (cs y)) {w : List Nat} (hw : ∀ y, y ∈ w → y < p) : cg an_P1 (wH p cs (plam lam p) (fun i => pmu p ct lam i p) w) (sI (fun j => (lam.getD j 0 : Int) * wd_v p cs w j) p) := by
  have e1 : ∀ q, ((sm (fun j => pmu p ct lam j p * dn p cs w j) q : Nat) : Int) = sI (fun j => ((pmu p ct lam j p : Nat) : Int) * dn p cs w j) q := by
    intro q
    induction q with
    | zero => rfl
    | succ q ihq =>
      show ((sm (fun j => pmu p ct lam j p * dn p cs w j) q + pmu p ct lam q p * dn p cs w q : Nat) : Int) = _
      rw [Int.natCast_add, ihq, Int.natCast_mul]; rfl
  unfold wH
  rw [ssum_range, Int.natCast_add, e1]
  refine cg_trans (cg_add (plam_cg p) (sI_cg (g := fun i => sI (fun j => (lam.getD j 0 : Int) * wa p cs i j) p * dn p cs w i) (fun i hi => ?_))) ?_
  · have := cg_mul (dn p cs w i : Int) (pmu_cg (lam := lam) hct hi p (Nat.le_refl _))
    rw [Int.mul_comm, Int.mul_comm (dn p cs w i : Int)] at this
    exact this
  · refine cg_symm (cg_trans (sI_cg (g := fun j => (lam.getD j 0 : Int) * (1 + sI (fun i => wa p cs i j * dn p cs w i) p)) (fun j hj => cg_mul _ (dn_v hp3 hp w hw j hj))) ⟨0, ?_⟩)
    rw [Int.mul_zero, Int.add_zero]
    have a1 : sI (fun j => (lam.getD j 0 : Int) * (1 + sI (fun i => wa p cs i j * dn p cs w i) p)) p = sI (fun j => (lam.getD j 0 : Int)) p + sI (fun j => sI (fun i => (lam.getD j 0 : Int) * wa p cs i j * dn p cs w i) p) p := by
      rw [← sI_add]
      refine sI_congr (fun j _ => ?_)
      rw [Int.mul_add, Int.mul_one, ← sI_mul]
      congr 1
      exact sI_congr (fun i _ => (Int.mul_assoc _ _ _).symm)
    rw [a1, sI_swap]
    congr 1
    refine sI_congr (fun i _ => ?_)
    rw [Int.mul_comm, ← sI_mul]
    exact sI_congr (fun j _ => Int.mul_comm _ _)
/-- no two accepted words with one vector -/
theorem pchk_inj {K m : Nat} (hp3 : 3 ≤ p) (hp : p ≤ 8) (hcs : ∀ j, j < p → cs j < 10 ∧ cs j ≠ 1) (hcl : ∀ y, y < p → cl.getD y 0 = cs y) (hct : ∀ y, y < p → ct.getD y 2 = an_c1 (cs y)) (hm : 1 ≤ m) (hm2 : m ≤ 29) (hK : K ≤ 20) (hB : (p + 1) ^ K ≤ 2147483648) (hcnt : pcnt p K 1 + 1 ≤ 2 ^ m) (h : pchk p cl ct lam K m = true) : ∀ (w w' : List Nat) (q q' : wd_q), wd_t p cs w = some q → wd_t p cs w' = some q' → w.length ≤ K → w'.length ≤ K → (∀ j, j < p → wd_v p cs w j = wd_v p cs w' j) → w = w' := by
  have hp0 : 0 < p := by omega
  have hla := plam_lt (p := p) (lam := lam) hp0
  have hmu : ∀ j, j < p → (fun i => pmu p ct lam i p) j < 2147478481 := fun j _ => pmu_lt j hp0
  have hW : ∀ y, y < p → (pW p ct).getD y [] = (List.range p).map (wc p cs y) := fun y hy => by
    unfold pW
    rw [List.getD_eq_getElem?_getD, List.getElem?_map, List.getElem?_range hy]
    show (List.range p).map (fun j => if j = y then 0 else pwc p ct y j) = _
    refine List.map_congr_left (fun j hj => ?_)
    unfold wc
    by_cases c : j = y
    · rw [if_pos c, if_pos c]
    · rw [if_neg c, if_neg c]; exact pwc_eq hct hy (List.mem_range.mp hj) c
  generalize hn : 2 ^ m - (pcnt p K 1 + 1) = np at *
  -- the row of all values
  have len : (lw p 0 K).length = pcnt p K 1 := lw_len hp3 K 0
  have hX : pX p cl ct lam K m = ofD 68 ((wval p cs (plam lam p) (fun i => pmu p ct lam i p) [] :: (lw p 0 K).map (wval p cs (plam lam p) (fun i => pmu p ct lam i p))) ++ List.range' 3221225472 np) := by
    have e := pall_of (Y := ppad np 3221225472) hp3 hp (fun j hj => (hcs j hj).1) hcl hW hla hmu K 0 _ _ _ _ _ _ (by rw [Nat.zero_add]; exact hB) (by omega) (lvl_0 hp3)
    unfold pX
    rw [hn]
    have e' : pall p cl (pW p ct) (plam lam p) ((List.range p).map (fun i => pmu p ct lam i p)) (ppad np 3221225472) K 1 (pX0 p) (pX0 p) 0 (pX0 p) (pgat 68 (fun y => y + 1) p) ((List.range p).map (fun j => 2147478482 * 2 ^ (68 * j))) = _ := e
    rw [e', pow_mul_shl, ppad_of]
    have v0 : wval p cs (plam lam p) (fun i => pmu p ct lam i p) [] = plam lam p := by
      show (if (1 : Nat) = 1 then wH p cs (plam lam p) (fun i => pmu p ct lam i p) [] % 2147478481 else _) = _
      rw [if_pos rfl]
      unfold wH
      have z : sm (fun j => (fun i => pmu p ct lam i p) j * dn p cs [] j) p = 0 := by
        exact (sm_congr (f := fun j => (fun i => pmu p ct lam i p) j * dn p cs [] j) (g := fun _ => 0) (fun j _ => Nat.mul_zero (pmu p ct lam j p))).trans (sm_zero p)
      rw [ssum_range, z, Nat.add_zero, Nat.mod_eq_of_lt hla]
    rw [v0, ofD_app, List.length_cons, List.length_map]
    show plam lam p + 2 ^ 68 * (ofD 68 ((lw p 0 K).map (wval p cs (plam lam p) (fun i => pmu p ct lam i p))) + 2 ^ (68 * (lw p 0 K).length) * ofD 68 (List.range' 3221225472 np)) = plam lam p + 2 ^ 68 * ofD 68 ((lw p 0 K).map (wval p cs (plam lam p) (fun i => pmu p ct lam i p))) + 2 ^ (68 * ((lw p 0 K).length + 1)) * ofD 68 (List.range' 3221225472 np)
    rw [Nat.mul_add, Nat.mul_succ, Nat.add_comm (68 * (lw p 0 K).length) 68, Nat.pow_add, Nat.mul_assoc, Nat.add_assoc]
  generalize hmv : (fun i => pmu p ct lam i p) = mu at *
  generalize hlv : plam lam p = la at *
  have vlt : ∀ v, v = [] ∨ v ∈ lw p 0 K → wval p cs la mu v < 4294967296 := fun v hv => by
    unfold wval
    by_cases c : (wq p cs v).2.2.2 = 1
    · rw [if_pos c]; exact Nat.lt_trans (Nat.mod_lt _ (by decide)) (by decide)
    · rw [if_neg c]
      rcases hv with hv | hv
      · subst hv; exact absurd rfl c
      · obtain ⟨j, j1, j2⟩ := lw_aw K 0 hv
        obtain ⟨d, d1, d2⟩ := aw_mem j2
        have := wid_lt (0 + j) d1 d2
        have b : (p + 1) ^ (0 + j + 1) ≤ (p + 1) ^ K := Nat.pow_le_pow_right (by omega) (by omega)
        omega
  have two : 2 ^ m = 2 * 2 ^ (m - 1) := by
    conv => lhs; rw [show m = (m - 1) + 1 by omega]
    rw [Nat.pow_succ, Nat.mul_comm]
  have m29 : 2 ^ m ≤ 2 ^ 29 := Nat.pow_le_pow_right (by decide) hm2
  have e29 : (2 : Nat) ^ 29 = 536870912 := by decide
  have inj := inter_inj (M := 2 ^ (m - 1)) (D := (wval p cs la mu [] :: (lw p 0 K).map (wval p cs la mu)) ++ List.range' 3221225472 np) (by
    rw [List.length_append, List.length_cons, List.length_map, len, List.length_range', ← two, ← hn]; omega) hX (fun x hx => by
    rcases List.mem_append.mp hx with hx | hx
    · rcases List.mem_cons.mp hx with hx | hx
      · rw [hx]; exact vlt [] (Or.inl rfl)
      · obtain ⟨v, v1, v2⟩ := List.mem_map.mp hx
        rw [← v2]; exact vlt v (Or.inr v1)
    · have := List.mem_range'_1.mp hx
      omega) (by
    rw [← two]
    exact sw_go_inj (Nat.two_pow_pos m) (bt_all (2 ^ m) m 0) _ (fun s hs => by
      obtain ⟨i, i1, i2⟩ := bt_ok m 0 s hs
      rw [i2]
      refine ⟨Nat.two_pow_pos i, ?_⟩
      have dv : 2 * 2 ^ i ∣ 2 ^ m := by
        rw [← Nat.pow_succ']
        exact Nat.pow_dvd_pow 2 (by omega)
      exact (Nat.mul_div_cancel' dv).symm) h)
  intro w w' q q' h1 h2 l1 l2 hv
  -- where an accepted word lies
  have place : ∀ (w : List Nat) (q : wd_q), wd_t p cs w = some q → w.length ≤ K → ∃ i, i < 2 * 2 ^ (m - 1) ∧ (w :: []).length = 1 ∧ ((wval p cs la mu [] :: (lw p 0 K).map (wval p cs la mu)) ++ List.range' 3221225472 np).getD i 0 = wH p cs la mu w % 2147478481 ∧ ([] :: lw p 0 K)[i]? = some w ∧ ∀ y, y ∈ w → y < p := fun w q hq hl => by
    have hin : w ∈ ([] :: lw p 0 K) ∧ (wq p cs w).2.2.2 = 1 ∧ ∀ y, y ∈ w → y < p := by
      by_cases e : w = []
      · subst e
        exact ⟨List.mem_cons_self, rfl, fun y hy => absurd hy List.not_mem_nil⟩
      · obtain ⟨a1, a2, a3, a4⟩ := wq_acc hp3 hcs w q hq e
        have wl : 0 < w.length := List.length_pos_iff.mpr e
        refine ⟨List.mem_cons_of_mem _ (lw_mem K 0 (w.length - 1) (by omega) ((gcat_mem p).mpr ⟨q.1, a3, by rw [Nat.zero_add]; exact a4⟩)), by rw [a1], gw_lt _ a3 a4⟩
    obtain ⟨i, i1, i2⟩ := List.getElem_of_mem hin.1
    have il : i < pcnt p K 1 + 1 := by rw [List.length_cons, len] at i1; exact i1
    refine ⟨i, by omega, rfl, ?_, by rw [List.getElem?_eq_getElem i1, i2], hin.2.2⟩
    have e : (wval p cs la mu [] :: (lw p 0 K).map (wval p cs la mu)) = ([] :: lw p 0 K).map (wval p cs la mu) := rfl
    rw [e, List.getD_eq_getElem?_getD, List.getElem?_append_left (by rw [List.length_map]; exact i1), List.getElem?_map, List.getElem?_eq_getElem i1, i2]
    show wval p cs la mu w = _
    unfold wval
    rw [if_pos hin.2.1]
  obtain ⟨i, i1, _, i2, i3, i4⟩ := place w q h1 l1
  obtain ⟨j, j1, _, j2, j3, j4⟩ := place w' q' h2 l2
  have hs : wH p cs la mu w % 2147478481 = wH p cs la mu w' % 2147478481 := by
    have c1 := wH_v (lam := lam) hp3 hp hct i4
    have c2 := wH_v (lam := lam) hp3 hp hct j4
    rw [hmv, hlv] at c1 c2
    have e : sI (fun j => (lam.getD j 0 : Int) * wd_v p cs w j) p = sI (fun j => (lam.getD j 0 : Int) * wd_v p cs w' j) p := sI_congr (fun j hj => by rw [hv j hj])
    rw [e] at c1
    exact cg_mod_eq (P := an_P1) (cg_trans c1 (cg_symm c2))
  have ij := inj i j i1 j1 (by rw [i2, j2]; exact hs)
  rw [ij, j3] at i3
  exact (Option.some.inj i3).symm
end CK1
