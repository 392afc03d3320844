/-! ===== all words of one length: one side more ===== -/
abbrev aw (p k : Nat) : List (List Nat) := gcat (gw p k) p
def lvl (p : Nat) (cs : Nat → Nat) (k HL HR BB AC ID : Nat) (Xs : List Nat) : Prop := HL = ofD 68 ((aw p k).map (fun w => (wq p cs w).1)) ∧ HR = ofD 68 ((aw p k).map (fun w => (wq p cs w).2.1)) ∧ BB = ofD 68 ((aw p k).map (fun w => (wq p cs w).2.2.1)) ∧ AC = ofD 68 ((aw p k).map (fun w => (wq p cs w).2.2.2)) ∧ ID = ofD 68 ((aw p k).map (wid p)) ∧ Xs = (List.range p).map (fun j => ofD 68 ((aw p k).map (fun w => dn p cs w j)))
section LS1
variable {p k : Nat} {cs : Nat → Nat}
theorem aw_len (hp3 : 3 ≤ p) : (aw p k).length = (p - 1) ^ k * p := gcat_len p (fun d hd => gw_len (by omega) k d hd)
theorem aw_mem {w : List Nat} (h : w ∈ aw p k) : ∃ d, d < p ∧ w ∈ gw p k d := (gcat_mem p).mp h
/-- a row over the longer words is put together out of rows over the shorter ones -/
theorem row_up (hp3 : 3 ≤ p) {F : Nat → Nat} {f : List Nat → Nat} (hF : ∀ y, y < p → F y = ofD 68 ((gcut (gw p k) y p).map (fun w => f (y :: w)))) : pgat (68 * (p - 1) ^ k * (p - 1)) F p = ofD 68 ((aw p (k + 1)).map f) := by
  rw [Nat.mul_assoc]
  refine pgat_of (g := gw p (k + 1)) (S := (p - 1) ^ k * (p - 1)) (fun y hy => ?_) (fun y hy => ?_)
  · rw [gw_len (by omega) (k + 1) y hy, Nat.pow_succ]
  · rw [hF y hy]
    show _ = ofD 68 (((gcut (gw p k) y p).map (List.cons y)).map f)
    rw [List.map_map]; rfl
theorem gl (hp3 : 3 ≤ p) : ∀ d, d < p → (gw p k d).length = (p - 1) ^ k := fun d hd => gw_len (by omega) k d hd
theorem gr (hp3 : 3 ≤ p) {y : Nat} (hy : y < p) : rep 68 ((p - 1) ^ k * (p - 1)) = rep 68 (gcut (gw p k) y p).length := by rw [gcut_len p (gl hp3) hy]
theorem gne {y : Nat} {w : List Nat} (h : w ∈ gcut (gw p k) y p) : w ≠ [] ∧ w.length = k + 1 ∧ hdw p w < p := by
  obtain ⟨d, d1, _, d3⟩ := (gcut_mem p).mp h
  have := gw_hd k d3
  exact ⟨this.2.1, this.2.2, by rw [this.1]; exact d1⟩
theorem gin {y : Nat} {w : List Nat} (h : w ∈ gcut (gw p k) y p) : w ∈ aw p k := by
  obtain ⟨d, d1, _, d3⟩ := (gcut_mem p).mp h
  exact (gcat_mem p).mpr ⟨d, d1, d3⟩
theorem wq_68 (hk : k ≤ 20) {w : List Nat} (h : w ∈ aw p k) : (wq p cs w).1 < 2 ^ 68 ∧ (wq p cs w).2.1 < 2 ^ 68 ∧ (wq p cs w).2.2.1 < 2 ^ 68 ∧ (wq p cs w).2.2.2 < 2 ^ 68 := by
  obtain ⟨d, d1, d2⟩ := aw_mem h
  have l := (gw_hd k d2).2.2
  obtain ⟨h1, h2, h3, h4⟩ := wq_le (p := p) (cs := cs) w
  rw [l] at h1 h2
  have : (50 : Nat) < 2 ^ 68 := by decide
  omega
theorem ppos_w (hp3 : 3 ≤ p) {y d : Nat} (hy : y < p) (hd : d < p) (hdy : d ≠ y) {f : List Nat → Nat} (hf : ∀ w, w ∈ aw p k → f w < 2 ^ 68) : ppos (68 * (p - 1) ^ k) y d (ofD 68 ((aw p k).map f)) = ofD 68 ((gcut (gw p k) y p).map (fun w => if hdw p w = d then f w else 0)) :=
  ppos_of (g := gw p k) (hd := hdw p) (gl hp3) (fun d w _ hw => (gw_hd k hw).1) hd hdy hy hf
theorem md_n2 (hp3 : 3 ≤ p) {y : Nat} (hy : y < p) : (y + 2) % p < p ∧ (y + 2) % p ≠ y := by
  refine ⟨Nat.mod_lt _ (by omega), ?_⟩
  have e : (y + 2) % p = ((y + 1) % p + 1) % p := by rw [Nat.mod_add_mod]
  have l : (y + 1) % p < p := Nat.mod_lt _ (by omega)
  rw [e]
  rcases md_1 hy with ⟨x1, x2⟩ | ⟨x1, x2⟩ <;> rcases md_1 l with ⟨x3, x4⟩ | ⟨x3, x4⟩ <;> omega
theorem hl_up (hp3 : 3 ≤ p) (hk : k ≤ 20) {y : Nat} (hy : y < p) : phl p (68 * (p - 1) ^ k) (rep 68 ((p - 1) ^ k * (p - 1))) (ofD 68 ((aw p k).map (fun w => (wq p cs w).2.1))) y = ofD 68 ((gcut (gw p k) y p).map (fun w => (wq p cs (y :: w)).1)) := by
  obtain ⟨o1, o2, o3, o4, o5⟩ := nb_sides hp3 hy
  show rep 68 ((p - 1) ^ k * (p - 1)) + ppos (68 * (p - 1) ^ k) y ((y + p - 1) % p) (ofD 68 ((aw p k).map (fun w => (wq p cs w).2.1))) = _
  rw [ppos_w hp3 hy o5 o2 (fun w hw => (wq_68 hk hw).2.1), gr hp3 hy, ← Nat.one_mul (rep 68 _), ofD_rep, ofD_add]
  refine ofD_congr (fun w hw => ?_)
  rw [wq_cons (gne hw).1]; rfl
theorem hr_up (hp3 : 3 ≤ p) (hk : k ≤ 20) {y : Nat} (hy : y < p) : phr p (68 * (p - 1) ^ k) (rep 68 ((p - 1) ^ k * (p - 1))) (ofD 68 ((aw p k).map (fun w => (wq p cs w).1))) (ofD 68 ((aw p k).map (fun w => (wq p cs w).2.2.1))) y = ofD 68 ((gcut (gw p k) y p).map (fun w => (wq p cs (y :: w)).2.1)) := by
  obtain ⟨o1, o2, o3, o4, o5⟩ := nb_sides hp3 hy
  obtain ⟨n1, n2⟩ := md_n2 hp3 hy
  show rep 68 ((p - 1) ^ k * (p - 1)) + (ppos (68 * (p - 1) ^ k) y ((y + 1) % p) (ofD 68 ((aw p k).map (fun w => (wq p cs w).1))) + ppos (68 * (p - 1) ^ k) y ((y + 2) % p) (ofD 68 ((aw p k).map (fun w => (wq p cs w).2.2.1)))) = _
  rw [ppos_w hp3 hy o4 o1 (fun w hw => (wq_68 hk hw).1), ppos_w hp3 hy n1 n2 (fun w hw => (wq_68 hk hw).2.2.1), gr hp3 hy, ← Nat.one_mul (rep 68 _), ofD_rep, ofD_add, ofD_add]
  refine ofD_congr (fun w hw => ?_)
  rw [wq_cons (gne hw).1]; rfl
theorem bb_up (hp3 : 3 ≤ p) (hk : k ≤ 20) (hcs : ∀ j, j < p → cs j < 10) {y : Nat} (hy : y < p) : pbb p (68 * (p - 1) ^ k) (rep 68 ((p - 1) ^ k * (p - 1))) (ofD 68 ((aw p k).map (fun w => (wq p cs w).2.1))) (cs ((y + p - 1) % p)) y = ofD 68 ((gcut (gw p k) y p).map (fun w => (wq p cs (y :: w)).2.2.1)) := by
  obtain ⟨o1, o2, o3, o4, o5⟩ := nb_sides hp3 hy
  unfold pbb
  by_cases c : cs ((y + p - 1) % p) = 0
  · rw [c]
    show 0 = _
    rw [ofD_zero]
    intro w hw
    rw [wq_cons (gne hw).1]
    exact if_pos c
  · have : Nat.beq (cs ((y + p - 1) % p)) 0 = false := by
      cases hb : Nat.beq (cs ((y + p - 1) % p)) 0 with
      | false => rfl
      | true => exact absurd (Nat.eq_of_beq_eq_true hb) c
    rw [this]
    show peq _ (phl p (68 * (p - 1) ^ k) (rep 68 ((p - 1) ^ k * (p - 1))) (ofD 68 ((aw p k).map (fun w => (wq p cs w).2.1))) y) _ = _
    rw [hl_up hp3 hk hy, gr hp3 hy, peq_of (by have := hcs _ o5; omega) (fun w hw => by
      have := (wq_le (p := p) (cs := cs) (y :: w)).1
      rw [List.length_cons, (gne hw).2.1] at this
      omega)]
    refine ofD_congr (fun w hw => ?_)
    rw [wq_cons (gne hw).1]
    exact (if_neg c).symm
theorem a0_up (hp3 : 3 ≤ p) (hk : k ≤ 20) {y : Nat} (hy : y < p) : pac0 p (68 * (p - 1) ^ k) (ofD 68 ((aw p k).map (fun w => (wq p cs w).2.2.1))) (ofD 68 ((aw p k).map (fun w => (wq p cs w).2.2.2))) y = ofD 68 ((gcut (gw p k) y p).map (fun w => wq_z p y (hdw p w) (wq p cs w))) := by
  obtain ⟨o1, o2, o3, o4, o5⟩ := nb_sides hp3 hy
  show pcut (68 * (p - 1) ^ k) y (ofD 68 ((aw p k).map (fun w => (wq p cs w).2.2.2))) - ppos (68 * (p - 1) ^ k) y ((y + 1) % p) (ofD 68 ((aw p k).map (fun w => (wq p cs w).2.2.2)) &&& ofD 68 ((aw p k).map (fun w => (wq p cs w).2.2.1))) = _
  rw [ofD_and _ _ _ (fun w hw => (wq_68 hk hw).2.2.2) (fun w hw => (wq_68 hk hw).2.2.1), ppos_w hp3 hy o4 o1 (fun w hw => Nat.lt_of_le_of_lt Nat.and_le_left (wq_68 hk hw).2.2.2), pcut_of (gl hp3) hy (fun w hw => (wq_68 hk hw).2.2.2), ofD_sub _ _ _ (fun w hw => ?_)]
  · rfl
  · by_cases c : hdw p w = (y + 1) % p
    · rw [if_pos c]; exact Nat.and_le_left
    · rw [if_neg c]; omega
theorem ac_up (hp3 : 3 ≤ p) (hk : k ≤ 20) (hcs : ∀ j, j < p → cs j < 10) {y : Nat} (hy : y < p) : pac p (68 * (p - 1) ^ k) (rep 68 ((p - 1) ^ k * (p - 1))) (ofD 68 ((aw p k).map (fun w => (wq p cs w).1))) (ofD 68 ((aw p k).map (fun w => (wq p cs w).2.2.1))) (ofD 68 ((aw p k).map (fun w => (wq p cs w).2.2.2))) (cs y) y = ofD 68 ((gcut (gw p k) y p).map (fun w => (wq p cs (y :: w)).2.2.2)) := by
  unfold pac
  have zle : ∀ w, w ∈ gcut (gw p k) y p → wq_z p y (hdw p w) (wq p cs w) ≤ 1 := fun w hw => Nat.le_trans (Nat.sub_le _ _) (wq_le (p := p) (cs := cs) w).2.2.2
  by_cases c : cs y = 0
  · rw [c]
    show pac0 p (68 * (p - 1) ^ k) _ _ y = _
    rw [a0_up hp3 hk hy]
    refine ofD_congr (fun w hw => ?_)
    rw [wq_cons (gne hw).1]
    exact (if_pos c).symm
  · have : Nat.beq (cs y) 0 = false := by
      cases hb : Nat.beq (cs y) 0 with
      | false => rfl
      | true => exact absurd (Nat.eq_of_beq_eq_true hb) c
    rw [this]
    show pac0 p (68 * (p - 1) ^ k) _ _ y - (pac0 p (68 * (p - 1) ^ k) _ _ y &&& peq _ (phr p (68 * (p - 1) ^ k) _ _ _ y) (cs y)) = _
    rw [a0_up hp3 hk hy, hr_up hp3 hk hy, gr hp3 hy, peq_of (by have := hcs _ hy; omega) (fun w hw => by
      have := (wq_le (p := p) (cs := cs) (y :: w)).2.1
      rw [List.length_cons, (gne hw).2.1] at this
      omega), ofD_and _ _ _ (fun w hw => Nat.lt_of_le_of_lt (zle w hw) (by decide)) (fun w hw => ?_), ofD_sub _ _ _ (fun w hw => Nat.and_le_left)]
    · refine ofD_congr (fun w hw => ?_)
      rw [wq_cons (gne hw).1]
      exact (if_neg c).symm
    · by_cases c2 : (wq p cs (y :: w)).2.1 = cs y
      · rw [if_pos c2]; decide
      · rw [if_neg c2]; decide
theorem id_up (hp3 : 3 ≤ p) (hp : p ≤ 8) (hk : k ≤ 20) {y : Nat} (hy : y < p) : pid p (68 * (p - 1) ^ k) (rep 68 ((p - 1) ^ k * (p - 1))) (ofD 68 ((aw p k).map (wid p))) y = ofD 68 ((gcut (gw p k) y p).map (fun w => wid p (y :: w))) := by
  show (y + 1) * rep 68 ((p - 1) ^ k * (p - 1)) + (p + 1) * pcut (68 * (p - 1) ^ k) y (ofD 68 ((aw p k).map (wid p))) = _
  rw [pcut_of (gl hp3) hy (fun w hw => ?_), gr hp3 hy, ofD_rep, ofD_mul, ofD_add]
  · rfl
  · obtain ⟨d, d1, d2⟩ := aw_mem hw
    exact Nat.lt_of_lt_of_le (wid_lt k d1 d2) (Nat.le_trans (Nat.pow_le_pow_left (show p + 1 ≤ 9 by omega) (k + 1)) (Nat.le_trans (Nat.pow_le_pow_right (by decide) (show k + 1 ≤ 21 by omega)) (by decide)))
theorem nw_up (hp3 : 3 ≤ p) (hp : p ≤ 8) {y : Nat} (hy : y < p) {ws : List Nat} (hw : ws = (List.range p).map (wc p cs y)) : pnw (68 * (p - 1) ^ k) y (rep 68 ((p - 1) ^ k * (p - 1))) (ofD 68 ((aw p k).map (fun w => dn p cs w y))) ws ((List.range p).map (fun j => ofD 68 ((aw p k).map (fun w => dn p cs w j)))) = ofD 68 ((gcut (gw p k) y p).map (fun w => dn p cs (y :: w) y)) := by
  have dl : ∀ w j, dn p cs w j < 2 ^ 68 := fun w j => Nat.lt_trans (dn_lt p cs hp w j) (by decide)
  have wl : ∀ j, wc p cs y j ≤ 2147478480 := fun j => by
    unfold wc
    by_cases c : j = y
    · rw [if_pos c]; omega
    · rw [if_neg c]
      have := an_c1_lt (an_m p cs y j)
      unfold an_P1 at this
      omega
  have sb : ∀ w, sN p (fun j => wc p cs y j * dn p cs w j) ≤ 8 * (2147478480 * 4294967295) := fun w => by
    refine Nat.le_trans (sm_bound (fun j _ => Nat.mul_le_mul (wl j) (show dn p cs w j ≤ 4294967295 by have := dn_lt p cs hp w j; omega))) (Nat.mul_le_mul_right _ hp)
  show pfo _ (pfo _ (pcut (68 * (p - 1) ^ k) y (psm (68 * (p - 1) ^ k) y ws ((List.range p).map (fun j => ofD 68 ((aw p k).map (fun w => dn p cs w j))))) + (6442435444 * rep 68 ((p - 1) ^ k * (p - 1)) - pcut (68 * (p - 1) ^ k) y (ofD 68 ((aw p k).map (fun w => dn p cs w y)))))) = _
  rw [hw, psm_of]
  have e1 : (fun w => ssum (fun j => wc p cs y j * dn p cs w j) (List.range p)) = fun w => sN p (fun j => wc p cs y j * dn p cs w j) := funext fun w => ssum_range _ p
  rw [e1, pcut_of (gl hp3) hy (fun w _ => Nat.lt_of_le_of_lt (sb w) (by decide)), pcut_of (gl hp3) hy (fun w _ => dl w y), gr hp3 hy, ofD_rep, ofD_sub _ _ _ (fun w _ => by have := dn_lt p cs hp w y; omega), ofD_add]
  have big : (2 : Nat) ^ 68 = 295147905179352825856 := by decide
  rw [pfo_of (fun w _ => ?_)]
  rotate_left
  · have := sb w
    rw [big]
    omega
  rw [pfo_of (fun w _ => ?_)]
  · exact ofD_congr (fun w _ => (if_pos rfl).symm)
  · have := sb w
    unfold fo
    rw [big]
    omega
end LS1
