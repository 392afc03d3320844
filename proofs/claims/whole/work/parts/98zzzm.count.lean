/-! ===== all words of a board: how many are accepted ===== -/
noncomputable def pcn (p : Nat) (cl : List Nat) (K : Nat) : Nat → Nat → Nat → Nat → Nat → Nat := Nat.rec (motive := fun _ => Nat → Nat → Nat → Nat → Nat → Nat) (fun _ _ _ _ _ => 0) (fun _ ih s HL HR BB AC =>
  nst (Nat.mul 68 s) fun t => nst (Nat.mul t (Nat.sub p 1)) fun T => nst (rep 68 (Nat.mul s (Nat.sub p 1))) fun R =>
  nst (pgat T (phl p t R HR) p) fun HL' => nst (pgat T (phr p t R HL BB) p) fun HR' => nst (pgat T (fun y => pbb p t R HR (cl.getD (Nat.mod (Nat.sub (Nat.add y p) 1) p) 0) y) p) fun BB' => nst (pgat T (fun y => pac p t R HL BB AC (cl.getD y 0) y) p) fun AC' =>
  Nat.add (Nat.mod AC 295147905179352825855) (ih (Nat.mul s (Nat.sub p 1)) HL' HR' BB' AC')) K
noncomputable def pful (p : Nat) (cl ct lam : List Nat) (K m : Nat) : Bool := Nat.ble 2000 (pcn p cl K 1 (pX0 p) (pX0 p) 0 (pX0 p)) && pchk p cl ct lam K m
section CN1
variable {α : Type}
def lsm (f : α → Nat) : List α → Nat
  | [] => 0
  | x :: l => f x + lsm f l
theorem lsm_app (f : α → Nat) : ∀ l1 l2, lsm f (l1 ++ l2) = lsm f l1 + lsm f l2 := by
  intro l1
  induction l1 with
  | nil => intro l2; show lsm f l2 = 0 + lsm f l2; omega
  | cons x l1 ih => intro l2; show f x + lsm f (l1 ++ l2) = f x + lsm f l1 + lsm f l2; rw [ih]; omega
theorem lsm_ofD (f : α → Nat) : ∀ (l : List α), ∃ c, ofD 68 (l.map f) = lsm f l + 295147905179352825855 * c := by
  intro l
  induction l with
  | nil => exact ⟨0, rfl⟩
  | cons x l ih =>
    obtain ⟨c, h⟩ := ih
    refine ⟨c + ofD 68 (l.map f), ?_⟩
    show f x + 2 ^ 68 * ofD 68 (l.map f) = f x + lsm f l + 295147905179352825855 * (c + ofD 68 (l.map f))
    have e : (2 : Nat) ^ 68 = 295147905179352825856 := by decide
    rw [e]
    omega
theorem lsm_le (f : α → Nat) : ∀ (l : List α), (∀ x, x ∈ l → f x ≤ 1) → lsm f l ≤ l.length := by
  intro l
  induction l with
  | nil => intro _; exact Nat.le_refl _
  | cons x l ih =>
    intro h
    show f x + lsm f l ≤ l.length + 1
    have := h x List.mem_cons_self
    have := ih (fun y hy => h y (List.mem_cons_of_mem _ hy))
    omega
theorem lsm_mod (f : α → Nat) (l : List α) (h : ∀ x, x ∈ l → f x ≤ 1) (hl : l.length < 295147905179352825855) : ofD 68 (l.map f) % 295147905179352825855 = lsm f l := by
  obtain ⟨c, e⟩ := lsm_ofD f l
  rw [e, Nat.add_mul_mod_self_left, Nat.mod_eq_of_lt (by have := lsm_le f l h; omega)]
theorem lsm_filter (f : α → Nat) : ∀ (l : List α), (∀ x, x ∈ l → f x ≤ 1) → (l.filter (fun x => decide (f x = 1))).length = lsm f l := by
  intro l
  induction l with
  | nil => intro _; rfl
  | cons x l ih =>
    intro h
    have h1 := h x List.mem_cons_self
    have i := ih (fun y hy => h y (List.mem_cons_of_mem _ hy))
    show _ = f x + lsm f l
    by_cases e : f x = 1
    · rw [List.filter_cons, if_pos (decide_eq_true e), List.length_cons, i, e]; omega
    · rw [List.filter_cons, if_neg (by rw [decide_eq_false e]; decide), i]; omega
end CN1
section CN2
variable {p : Nat} {cs : Nat → Nat} {cl ct lam : List Nat}
theorem pcn_of (hp3 : 3 ≤ p) (hp : p ≤ 8) (hcs : ∀ j, j < p → cs j < 10) (hcl : ∀ y, y < p → cl.getD y 0 = cs y) : ∀ (K k HL HR BB AC : Nat), k + K ≤ 20 → HL = ofD 68 ((aw p k).map (fun w => (wq p cs w).1)) → HR = ofD 68 ((aw p k).map (fun w => (wq p cs w).2.1)) → BB = ofD 68 ((aw p k).map (fun w => (wq p cs w).2.2.1)) → AC = ofD 68 ((aw p k).map (fun w => (wq p cs w).2.2.2)) → pcn p cl K ((p - 1) ^ k) HL HR BB AC = lsm (fun w => (wq p cs w).2.2.2) (lw p k K) := by
  intro K
  induction K with
  | zero => intro k HL HR BB AC _ _ _ _ _; rfl
  | succ K ih =>
    intro k HL HR BB AC hk h1 h2 h3 h4
    have st := lvl_step (cl := cl) (W := (List.range p).map (fun y => (List.range p).map (wc p cs y))) hp3 hp (show k ≤ 20 by omega) hcs hcl (fun y hy => by
      rw [List.getD_eq_getElem?_getD, List.getElem?_map, List.getElem?_range hy]; rfl) (show lvl p cs k HL HR BB AC (ofD 68 ((aw p k).map (wid p))) ((List.range p).map (fun j => ofD 68 ((aw p k).map (fun w => dn p cs w j)))) from ⟨h1, h2, h3, h4, rfl, rfl⟩)
    obtain ⟨s1, s2, s3, s4, _, _⟩ := st
    have i := ih (k + 1) _ _ _ _ (by omega) s1 s2 s3 s4
    rw [Nat.pow_succ] at i
    show AC % 295147905179352825855 + pcn p cl K ((p - 1) ^ k * (p - 1)) _ _ _ _ = lsm _ (aw p k ++ lw p (k + 1) K)
    rw [lsm_app]
    have e1 : AC % 295147905179352825855 = lsm (fun w => (wq p cs w).2.2.2) (aw p k) := by
      rw [h4]
      refine lsm_mod _ _ (fun w _ => (wq_le w).2.2.2) ?_
      rw [aw_len hp3]
      have b1 : (p - 1) ^ k ≤ 7 ^ 20 := Nat.le_trans (Nat.pow_le_pow_left (show p - 1 ≤ 7 by omega) k) (Nat.pow_le_pow_right (by decide) (by omega))
      have b2 : (p - 1) ^ k * p ≤ 7 ^ 20 * 8 := Nat.mul_le_mul b1 hp
      have b3 : (7 : Nat) ^ 20 * 8 < 295147905179352825855 := by decide
      omega
    rw [e1]
    exact congrArg _ i
/-- what is known as accepted is accepted -/
theorem acc_wq (hp3 : 3 ≤ p) (hcs : ∀ j, j < p → cs j < 10 ∧ cs j ≠ 1) : ∀ (k d : Nat) (w : List Nat), d < p → w ∈ gw p k d → (wq p cs w).2.2.2 = 1 → ∃ q, wd_t p cs w = some q := by
  intro k
  induction k with
  | zero =>
    intro d w hd h _
    have : w = [d] := List.mem_singleton.mp h
    subst this
    refine ⟨_, wd_cons rfl (wd_o_iff.mpr ⟨hd, ?_, fun z => absurd z.1 (show ¬ (false = true) by decide), fun z => ?_⟩)⟩
    · show d ≠ p; omega
    · have r1 : wd_r p (p, 0, 0, false) d = 1 := by
        unfold wd_r
        have := Nat.mod_lt (d + 1) (show 0 < p by omega)
        rw [if_neg (show ¬ (d + 1) % p = p by omega), if_neg (show ¬ (false = true ∧ (d + 2) % p = p) from fun z => absurd z.1 (by decide))]
      rw [r1] at z
      exact (hcs d hd).2 z.2.symm
  | succ k ih =>
    intro y w hy h ha
    obtain ⟨v, h1, h2⟩ := List.mem_map.mp h
    subst h2
    obtain ⟨d, d1, d2, d3⟩ := (gcut_mem p).mp h1
    have hv := gw_hd k d3
    rw [wq_cons hv.2.1, hv.1] at ha
    have ha' : wq_a p cs y d (wq p cs v) = 1 := ha
    have z1 : wq_z p y d (wq p cs v) = 1 := by
      have zl : wq_z p y d (wq p cs v) ≤ 1 := Nat.le_trans (Nat.sub_le _ _) (wq_le (p := p) (cs := cs) v).2.2.2
      unfold wq_a at ha'
      by_cases c : cs y = 0
      · rw [if_pos c] at ha'; exact ha'
      · rw [if_neg c] at ha'; omega
    have a1 : (wq p cs v).2.2.2 = 1 := by
      have := (wq_le (p := p) (cs := cs) v).2.2.2
      unfold wq_z at z1
      omega
    obtain ⟨q, hq⟩ := ih d v d1 d3 a1
    obtain ⟨w1, w2, w3, w4⟩ := wq_acc hp3 hcs v q hq hv.2.1
    rw [hv.1] at w2
    have accs : wd_t p cs (y :: v) ≠ none → ∃ q, wd_t p cs (y :: v) = some q := fun hne => by
      cases hh : wd_t p cs (y :: v) with
      | none => exact absurd hh hne
      | some q => exact ⟨q, rfl⟩
    -- the reckoned state is the word's
    have er : wq_r p y d (wq p cs v) = wd_r p q y := by
      obtain ⟨n1, n2, n3, n4, n5⟩ := nb_sides hp3 hy
      have n12 : (y + 1) % p ≠ (y + 2) % p := fun e => by
        have e2 : (y + 2) % p = ((y + 1) % p + 1) % p := by rw [Nat.mod_add_mod]
        rw [e2] at e
        rcases md_1 n4 with ⟨x1, x2⟩ | ⟨x1, x2⟩ <;> omega
      rw [w1, w2]
      show 1 + ((if q.1 = (y + 1) % p then q.2.1 else 0) + (if q.1 = (y + 2) % p then (if q.2.2.2 = true then 1 else 0) else 0)) = (if (y + 1) % p = q.1 then q.2.1 else if q.2.2.2 = true ∧ (y + 2) % p = q.1 then 1 else 0) + 1
      by_cases c : (y + 1) % p = q.1
      · rw [if_pos c.symm, if_pos c, if_neg (fun z => n12 (c.trans z))]; omega
      · rw [if_neg (fun z => c z.symm), if_neg c]
        by_cases c2 : (y + 2) % p = q.1
        · rw [if_pos c2.symm]
          by_cases c3 : q.2.2.2 = true
          · rw [if_pos c3, if_pos ⟨c3, c2⟩]
          · rw [if_neg c3, if_neg (fun z => c3 z.1)]
        · rw [if_neg (fun z => c2 z.symm), if_neg (fun z => c2 z.2)]
    refine ⟨_, wd_cons hq (wd_o_iff.mpr ⟨hy, by rw [← w2]; exact fun z => d2 z.symm, fun z => ?_, fun z => ?_⟩)⟩
    · unfold wq_z at z1
      rw [w1, w2] at z1
      have z1' : 1 - (if q.1 = (y + 1) % p then 1 &&& (if q.2.2.2 = true then 1 else 0) else 0) = 1 := z1
      rw [if_pos z.2.symm, if_pos z.1] at z1'
      exact absurd z1' (by decide)
    · unfold wq_a at ha'
      rw [if_neg z.1, z1, er, if_pos z.2] at ha'
      exact absurd ha' (by decide)
theorem nodup_cm {y : Nat} : ∀ (l : List (List Nat)), l.Nodup → (l.map (List.cons y)).Nodup := by
  intro l
  induction l with
  | nil => intro _; exact List.nodup_nil
  | cons x l ih =>
    intro h
    obtain ⟨h1, h2⟩ := List.nodup_cons.mp h
    refine List.nodup_cons.mpr ⟨fun hin => ?_, ih h2⟩
    obtain ⟨v, v1, v2⟩ := List.mem_map.mp hin
    rw [(List.cons.inj v2).2] at v1
    exact h1 v1
theorem nodup_get {l : List (List Nat)} (h : l.Nodup) {i j : Nat} (hi : i < l.length) (hj : j < l.length) (e : l[i] = l[j]) : i = j := by
  have q := List.pairwise_iff_getElem.mp h
  by_cases c : i < j
  · exact absurd e (q i j hi hj c)
  · by_cases c2 : j < i
    · exact absurd e.symm (q j i hj hi c2)
    · omega
/-- no word twice -/
theorem gw_nodup : ∀ (k d : Nat), (gw p k d).Nodup := by
  intro k
  induction k with
  | zero => intro d; exact List.nodup_cons.mpr ⟨List.not_mem_nil, List.nodup_nil⟩
  | succ k ih =>
    intro y
    show ((gcut (gw p k) y p).map (List.cons y)).Nodup
    refine nodup_cm _ ?_
    have gen : ∀ q, (gcut (gw p k) y q).Nodup := by
      intro q
      induction q with
      | zero => exact List.nodup_nil
      | succ q ihq =>
        show (if q = y then gcut (gw p k) y q else gcut (gw p k) y q ++ gw p k q).Nodup
        by_cases c : q = y
        · rw [if_pos c]; exact ihq
        · rw [if_neg c]
          refine List.nodup_append.mpr ⟨ihq, ih q, fun a ha b hb e => ?_⟩
          subst e
          obtain ⟨d, d1, _, d3⟩ := (gcut_mem q).mp ha
          have h1 := (gw_hd k d3).1
          have h2 := (gw_hd k hb).1
          omega
    exact gen p
theorem aw_nodup (k : Nat) : (aw p k).Nodup := by
  have gen : ∀ q, (gcat (gw p k) q).Nodup := by
    intro q
    induction q with
    | zero => exact List.nodup_nil
    | succ q ihq =>
      show (gcat (gw p k) q ++ gw p k q).Nodup
      refine List.nodup_append.mpr ⟨ihq, gw_nodup k q, fun a ha b hb e => ?_⟩
      subst e
      obtain ⟨d, d1, d3⟩ := (gcat_mem q).mp ha
      have h1 := (gw_hd k d3).1
      have h2 := (gw_hd k hb).1
      omega
  exact gen p
theorem lw_nodup : ∀ (K k : Nat), (lw p k K).Nodup ∧ ∀ w, w ∈ lw p k K → k + 1 ≤ w.length := by
  intro K
  induction K with
  | zero => intro k; exact ⟨List.nodup_nil, fun w h => absurd h List.not_mem_nil⟩
  | succ K ih =>
    intro k
    obtain ⟨i1, i2⟩ := ih (k + 1)
    have la : ∀ w, w ∈ aw p k → w.length = k + 1 := fun w hw => by
      obtain ⟨d, _, d2⟩ := aw_mem hw
      exact (gw_hd k d2).2.2
    refine ⟨List.nodup_append.mpr ⟨aw_nodup k, i1, fun a ha b hb e => ?_⟩, fun w hw => ?_⟩
    · subst e
      have h1 := la a ha
      have h2 := i2 a hb
      omega
    · rcases List.mem_append.mp hw with hw | hw
      · have := la w hw; omega
      · have := i2 w hw; omega
theorem lw_le : ∀ (K : Nat) {w : List Nat}, w ∈ lw p 0 K → w.length ≤ K ∧ ∃ k d, d < p ∧ w ∈ gw p k d := by
  intro K w hw
  obtain ⟨j, j1, j2⟩ := lw_aw K 0 hw
  obtain ⟨d, d1, d2⟩ := aw_mem j2
  exact ⟨by rw [(gw_hd _ d2).2.2]; omega, _, d, d1, d2⟩
/-- a board is known by one check -/
theorem pful_W {K m : Nat} (hp3 : 3 ≤ p) (hp : p ≤ 8) (hcs : ∀ j, j < p → cs j < 10 ∧ cs j ≠ 1) (hcl : ∀ y, y < p → cl.getD y 0 = cs y) (hct : ∀ y, y < p → ct.getD y 2 = an_c1 (cs y)) (hm : 1 ≤ m) (hm2 : m ≤ 29) (hK : K ≤ 20) (hB : (p + 1) ^ K ≤ 2147483648) (hcnt : pcnt p K 1 + 1 ≤ 2 ^ m) (h : pful p cl ct lam K m = true) : wd_W p cs K := by
  unfold pful at h
  rw [Bool.and_eq_true] at h
  refine ⟨?_, pchk_inj hp3 hp hcs hcl hct hm hm2 hK hB hcnt h.2⟩
  obtain ⟨l1, l2, l3, l4, _, _⟩ := lvl_0 (cs := cs) hp3
  have c := pcn_of hp3 hp (fun j hj => (hcs j hj).1) hcl K 0 _ _ _ _ (by omega) l1 l2 l3 l4
  have c' : pcn p cl K 1 (pX0 p) (pX0 p) 0 (pX0 p) = lsm (fun w => (wq p cs w).2.2.2) (lw p 0 K) := c
  have big : 2000 ≤ lsm (fun w => (wq p cs w).2.2.2) (lw p 0 K) := by
    rw [← c']; exact Nat.le_of_ble_eq_true h.1
  have len := lsm_filter (fun w => (wq p cs w).2.2.2) (lw p 0 K) (fun w _ => (wq_le w).2.2.2)
  generalize hL : (lw p 0 K).filter (fun w => decide ((wq p cs w).2.2.2 = 1)) = L at len
  have nd : ([] :: L).Nodup := by
    refine List.nodup_cons.mpr ⟨fun hin => ?_, ?_⟩
    · rw [← hL] at hin
      have := (lw_nodup (p := p) K 0).2 [] (List.mem_filter.mp hin).1
      exact absurd this (by simp)
    · rw [← hL]; exact (lw_nodup K 0).1.filter _
  have ll : 2001 ≤ ([] :: L).length := by rw [List.length_cons]; omega
  refine ⟨fun i => ([] :: L).getD i [], fun i hi => ?_, fun i j hi hj e => ?_⟩
  · have hi' : i < ([] :: L).length := by omega
    have em : ([] :: L).getD i [] = ([] :: L)[i] := by
      rw [List.getD_eq_getElem?_getD, List.getElem?_eq_getElem hi']; rfl
    show ∃ q, wd_t p cs (([] :: L).getD i []) = some q ∧ (([] :: L).getD i []).length ≤ K
    rw [em]
    have mem := List.getElem_mem hi'
    generalize ([] :: L)[i] = w at mem
    rcases List.mem_cons.mp mem with c | c
    · subst c
      exact ⟨_, rfl, Nat.zero_le _⟩
    · rw [← hL] at c
      obtain ⟨f1, f2⟩ := List.mem_filter.mp c
      obtain ⟨g1, k, d, d1, d2⟩ := lw_le K f1
      obtain ⟨q, hq⟩ := acc_wq hp3 hcs k d w d1 d2 (of_decide_eq_true f2)
      exact ⟨q, hq, g1⟩
  · have hi' : i < ([] :: L).length := by omega
    have hj' : j < ([] :: L).length := by omega
    have e' : ([] :: L)[i] = ([] :: L)[j] := by
      have e2 : ([] :: L).getD i [] = ([] :: L).getD j [] := e
      rw [List.getD_eq_getElem?_getD, List.getElem?_eq_getElem hi', List.getD_eq_getElem?_getD, List.getElem?_eq_getElem hj'] at e2
      exact e2
    exact nodup_get nd hi' hj' e'
end CN2
