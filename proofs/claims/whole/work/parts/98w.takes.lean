/-! ===== closed boards: the reference weighs a draft ===== -/
/-- a board's tiles numbered anew, as they are met from x -/
def cb_rn (n p : Nat) (a : List Nat) (x s k : Nat) : Nat := (cb_od n p a x).idxOf (cb_b n a s ((cb_od n p a x).getD k 0))
def cb_eq2 (p n : Nat) (u w : Nat → Nat → Nat) : Prop := ∀ s k, s < p → k < n → u s k = w s k
def cb_lt2 (p n : Nat) (u w : Nat → Nat → Nat) : Prop := ∃ s k, s < p ∧ k < n ∧ u s k < w s k ∧ ∀ s' k', s' < p → k' < n → (s' < s ∨ s' = s ∧ k' < k) → u s' k' = w s' k'
/-- all hang together -/
def cb_cn (n p : Nat) (a : List Nat) : Prop := ∀ y, y < n → cb_re n a p 0 y
/-- the least of its kind -/
def cb_li (n p : Nat) (a : List Nat) : Prop := (∀ x, x < n → ¬ cb_lt2 p n (cb_rn n p a x) (cb_b n a)) ∧ ∃ x, x < n ∧ cb_eq2 p n (cb_rn n p a x) (cb_b n a)
def cb_sm (n p : Nat) (cs : Nat → Nat) (a : List Nat) : Prop := ∀ s, s < p → ∀ x, x < n → cb_b n a s x ≠ x ∧ (cs s ≠ 0 → cb_lap n (a.getD s 0) (a.getD ((s + 1) % p) 0) x = cs s)
noncomputable def cb_B (P : Prop) : Bool := @decide P (Classical.propDecidable P)
theorem cb_B_iff {P : Prop} : cb_B P = true ↔ P := @decide_eq_true_iff P (Classical.propDecidable P)
theorem cb_B_t {P : Prop} (h : P) : cb_B P = true := cb_B_iff.mpr h
theorem cb_B_f {P : Prop} (h : ¬ P) : cb_B P = false := Bool.eq_false_iff.mpr (fun q => h (cb_B_iff.mp q))
section CT1
variable {d n p : Nat} {cs : Nat → Nat} {J : Nat → Nat → Int64} {a o : List Nat} {I : Nat → Nat → Int32}
/-- number of a tile that is met -/
theorem cb_tn_at (h : cb_tn n o I) {y : Nat} (hy : y < n) (hm : y ∈ o) : I 32 y = nI (o.idxOf y) := by rw [h.1 y hy, if_pos hm]
theorem rs_beside {x : Nat} (hn : n < 7) (hp : p ≤ 8) (hal : a.length = p) (ha : cb_ok n p a) (hx : x < n) (hful : (cb_od n p a x).length = n) (hc : cb_cx n p cs I) (hat : cb_at a I) (ht : cb_tn n (cb_od n p a x) I) : ∃ v : Int32, rk_call (d + 2) 60 [.ref 0] (rk_R, I, J) (some (.int v)) (rk_R, I, J) ∧ (v = 0 ↔ cb_eq2 p n (cb_rn n p a x) (cb_b n a)) ∧ (v < 0 ↔ cb_lt2 p n (cb_rn n p a x) (cb_b n a)) := by
  obtain ⟨o1, -, o3, -⟩ := cb_od_all hn ha hx
  have hgm : ∀ k, k < n → (cb_od n p a x).getD k 0 ∈ cb_od n p a x := fun k hk => by rw [cb_getD _ _ (by omega)]; exact List.getElem_mem _
  have loop12 : ∀ (s : Nat), s < p → ((∀ s' k', s' < s + 1 → k' < n → cb_rn n p a x s' k' = cb_b n a s' k') → ∃ v, rk_go (rk_call (d + 1)) 60 (2, [some (.ref 0), some (.int (nI (s + 1))), none, none], [], (rk_R, I, J)) (some (.int v)) (rk_R, I, J) ∧ (v = 0 ↔ cb_eq2 p n (cb_rn n p a x) (cb_b n a)) ∧ (v < 0 ↔ cb_lt2 p n (cb_rn n p a x) (cb_b n a))) → (∀ s' k', s' < s → k' < n → cb_rn n p a x s' k' = cb_b n a s' k') → ∀ (r k : Nat), k + r = n → (∀ k', k' < k → cb_rn n p a x s k' = cb_b n a s k') → ∃ v, rk_go (rk_call (d + 1)) 60 (12, [some (.ref 0), some (.int (nI s)), some (.int (nI k)), none], [], (rk_R, I, J)) (some (.int v)) (rk_R, I, J) ∧ (v = 0 ↔ cb_eq2 p n (cb_rn n p a x) (cb_b n a)) ∧ (v < 0 ↔ cb_lt2 p n (cb_rn n p a x) (cb_b n a)) := by
    intro s hs nxt hbef r
    induction r with
    | zero =>
      intro k hk hkb
      have : k = n := by omega
      subst this
      obtain ⟨v, v1, v2⟩ := nxt (fun s' k' h1 h2 => by
        by_cases e : s' = s
        · rw [e]; exact hkb k' h2
        · exact hbef s' k' (by omega) h2)
      exact ⟨v, rp_beside_12_0 I J _ _ (by rw [hc.1.1]; exact nI_le (Nat.le_refl k) (by omega)) (by rw [nI_1]; exact v1), v2⟩
    | succ r ih =>
      intro k hk hkb
      have hok := hgm k (by omega)
      have holt := o1.2 _ hok
      have hbm := o3 _ s hok hs
      have hbl := o1.2 _ hbm
      have hbk : cb_b n a s k < n := cb_b_lt hn ha hs (by omega)
      have hix := List.idxOf_lt_length_iff.mpr hbm
      have g1 : ∀ v, rk_go (rk_call (d + 1)) 60 (42, [some (.ref 0), some (.int (nI s)), some (.int (nI k)), none], [.int (nI (cb_b n a s k)), .int (nI (cb_rn n p a x s k))], (rk_R, I, J)) (some (.int v)) (rk_R, I, J) → rk_go (rk_call (d + 1)) 60 (12, [some (.ref 0), some (.int (nI s)), some (.int (nI k)), none], [], (rk_R, I, J)) (some (.int v)) (rk_R, I, J) := fun v hg => by
        have q := rp_beside_12_1 (C := rk_call (d + 1)) (v := some (.int v)) (τ := (rk_R, I, J)) (I' := I) (J' := J) I J (nI s) (nI k) (by rw [hc.1.1]; exact nI_ge (by omega) (by omega)) (vp_in_nI (by omega) (by decide)) (nI (cb_b n a s ((cb_od n p a x).getD k 0)))
        rw [nI_clamp (by omega), ht.2 k (by omega)] at q
        refine q (rs_go (d := d) hn hc.1 (by omega) (hat s (by omega)) (ha s hs) holt) ?_
        have q2 := rp_beside_35_0 (C := rk_call (d + 1)) (v := some (.int v)) (τ := (rk_R, I, J)) (I' := I) (J' := J) I J (nI s) (nI k) (nI (cb_b n a s ((cb_od n p a x).getD k 0))) (vp_in_nI (by omega) (by decide)) (nI (cb_b n a s k)) (rs_go (d := d) hn hc.1 (by omega) (hat s (by omega)) (ha s hs) (by omega))
        rw [nI_clamp (by omega), cb_tn_at ht hbl hbm] at q2
        exact q2 hg
      by_cases e : cb_rn n p a x s k = cb_b n a s k
      · obtain ⟨v, v1, v2⟩ := ih (k + 1) (by omega) (fun k' hk' => by
          by_cases ek : k' = k
          · rw [ek]; exact e
          · exact hkb k' (by omega))
        refine ⟨v, g1 v (rp_beside_42_0 I J _ _ _ _ (by rw [e, Int32.sub_self]) ?_), v2⟩
        rw [nI_1]
        exact v1
      · have l1 : cb_rn n p a x s k < 2 ^ 30 := by unfold cb_rn; omega
        have l2 : cb_b n a s k < 2 ^ 30 := by omega
        have hti := pk_sub_toInt l1 l2
        refine ⟨nI (cb_rn n p a x s k) - nI (cb_b n a s k), g1 _ (rp_beside_42_1 I J _ _ _ _ (fun q => ?_)), ⟨fun q => ?_, fun q => absurd (q s k hs (by omega)) e⟩, ?_⟩
        · rw [q] at hti
          have : (0 : Int32).toInt = 0 := by decide
          omega
        · rw [q] at hti
          have : (0 : Int32).toInt = 0 := by decide
          omega
        · rw [Int32.lt_iff_toInt_lt, hti, show (0 : Int32).toInt = 0 from by decide]
          constructor
          · intro q
            refine ⟨s, k, hs, by omega, by omega, fun s' k' h1 h2 h3 => ?_⟩
            rcases h3 with h3 | ⟨h3, h4⟩
            · exact hbef s' k' h3 h2
            · rw [h3]; exact hkb k' h4
          · rintro ⟨s2, k2, q1, q2, q3, q4⟩
            have hs2 : ¬ (s < s2 ∨ s = s2 ∧ k < k2) := fun z => e (q4 s k hs (by omega) z)
            by_cases e2 : s2 = s
            · by_cases e3 : k2 = k
              · rw [e2, e3] at q3; omega
              · have : k2 < k := by omega
                rw [e2] at q3
                have := hkb k2 this
                omega
            · have : s2 < s := by omega
              have := hbef s2 k2 this q2
              omega
  have loop2 : ∀ (r s : Nat), s + r = p → (∀ s' k', s' < s → k' < n → cb_rn n p a x s' k' = cb_b n a s' k') → ∃ v, rk_go (rk_call (d + 1)) 60 (2, [some (.ref 0), some (.int (nI s)), none, none], [], (rk_R, I, J)) (some (.int v)) (rk_R, I, J) ∧ (v = 0 ↔ cb_eq2 p n (cb_rn n p a x) (cb_b n a)) ∧ (v < 0 ↔ cb_lt2 p n (cb_rn n p a x) (cb_b n a)) := by
    intro r
    induction r with
    | zero =>
      intro s hs h
      have : s = p := by omega
      subst this
      refine ⟨0, rp_beside_2_0 I J _ (by rw [hc.2.1]; exact nI_le (Nat.le_refl s) (by omega)), ⟨fun _ s' k' h1 h2 => h s' k' h1 h2, fun _ => rfl⟩, ⟨fun q => absurd q (by decide), ?_⟩⟩
      rintro ⟨s2, k2, q1, q2, q3, -⟩
      have := h s2 k2 q1 q2
      omega
    | succ r ih =>
      intro s hs hbef
      obtain ⟨v, v1, v2⟩ := loop12 s (by omega) (ih (s + 1) (by omega)) hbef n 0 (Nat.zero_add n) (fun k' hk' => absurd hk' (Nat.not_lt_zero k'))
      exact ⟨v, rp_beside_2_1 I J _ (by rw [hc.2.1]; exact nI_ge (by omega) (by omega)) v1, v2⟩
  obtain ⟨v, v1, v2⟩ := loop2 p 0 (Nat.zero_add p) (fun s' k' h => absurd h (Nat.not_lt_zero s'))
  exact ⟨v, ij_cr_of (Nat.le_of_ble_eq_true rfl) (rp_beside_0_0 I J v1), v2⟩
theorem rs_isSmooth (hn : n < 7) (hp3 : 3 ≤ p) (hp : p ≤ 8) (hcs : ∀ j, j < p → cs j < 10) (hal : a.length = p) (ha : cb_ok n p a) (hc : cb_cx n p cs I) (hat : cb_at a I) : rk_call (d + 3) 61 [.ref 0] (rk_R, I, J) (some (.int (if cb_B (cb_sm n p cs a) then 1 else 0))) (rk_R, I, J) := by
  have bad : ∀ s x, s < p → x < n → ¬ (cb_b n a s x ≠ x ∧ (cs s ≠ 0 → cb_lap n (a.getD s 0) (a.getD ((s + 1) % p) 0) x = cs s)) → cb_B (cb_sm n p cs a) = false := fun s x hs hx h => cb_B_f (fun q => h (q s hs x hx))
  have loop12 : ∀ (s : Nat), s < p → rk_go (rk_call (d + 2)) 61 (2, [some (.ref 0), some (.int (nI (s + 1))), none], [], (rk_R, I, J)) (some (.int (if cb_B (cb_sm n p cs a) then 1 else 0))) (rk_R, I, J) ∨ (∃ s' x, s' < s + 1 ∧ x < n ∧ ¬ (cb_b n a s' x ≠ x ∧ (cs s' ≠ 0 → cb_lap n (a.getD s' 0) (a.getD ((s' + 1) % p) 0) x = cs s'))) → (∀ s' x, s' < s → x < n → cb_b n a s' x ≠ x ∧ (cs s' ≠ 0 → cb_lap n (a.getD s' 0) (a.getD ((s' + 1) % p) 0) x = cs s')) → ∀ (r x : Nat), x + r = n → (∀ y, y < x → cb_b n a s y ≠ y ∧ (cs s ≠ 0 → cb_lap n (a.getD s 0) (a.getD ((s + 1) % p) 0) y = cs s)) → rk_go (rk_call (d + 2)) 61 (12, [some (.ref 0), some (.int (nI s)), some (.int (nI x))], [], (rk_R, I, J)) (some (.int (if cb_B (cb_sm n p cs a) then 1 else 0))) (rk_R, I, J) := by
    intro s hs nxt hbef r
    have cls : (nI s).toNatClampNeg = s := nI_clamp (by omega)
    have es := hc.2.2 s hs
    have cs10 := hcs s hs
    induction r with
    | zero =>
      intro x hx hy
      have : x = n := by omega
      subst this
      refine rp_isSmooth_12_0 I J _ _ (by rw [hc.1.1]; exact nI_le (Nat.le_refl x) (by omega)) ?_
      rw [nI_1]
      rcases nxt with q | ⟨s', y, h1, h2, h3⟩
      · exact q
      · exact absurd (by
          by_cases e : s' = s
          · rw [e]; exact hy y h2
          · exact hbef s' y (by omega) h2) h3
    | succ r ih =>
      intro x hx hy
      have hbx := cb_b_lt hn ha hs (show x < n by omega)
      refine rp_isSmooth_12_1 I J _ _ (by rw [hc.1.1]; exact nI_ge (by omega) (by omega)) _ (rs_go (d := d + 1) hn hc.1 (by omega) (hat s (by omega)) (ha s hs) (by omega)) ?_
      show rk_go _ 61 (26, _, [.int (nI (cb_b n a s x))], _) _ _
      by_cases e : cb_b n a s x = x
      · rw [bad s x hs (by omega) (fun q => q.1 e)]
        exact rp_isSmooth_26_0 I J _ _ _ (by rw [e])
      · have ne : ¬ nI (cb_b n a s x) = nI x := fun q => e ((nI_eq (by omega) (by omega)).mp q)
        by_cases e0 : cs s = 0
        · refine rp_isSmooth_26_1 I J _ _ _ ne (vp_in_nI (by omega) (by decide)) (by rw [cls, es, e0]; rfl) ?_
          rw [nI_1]
          exact ih (x + 1) (by omega) (fun y hy' => by
            by_cases ey : y = x
            · rw [ey]; exact ⟨e, fun q => absurd e0 q⟩
            · exact hy y (by omega))
        · have hsp : (s + 1) % p < p := Nat.mod_lt _ (by omega)
          have hl := cb_lap_le hn (ha s hs) (ha _ hsp) (show x < n by omega)
          refine rp_isSmooth_26_2 I J _ _ _ ne (vp_in_nI (by omega) (by decide)) (by rw [cls, es]; exact nI_ne0 (by omega) (by omega)) _ (rs_round (d := d) hn (by omega) hp hc hs (ha s hs) (ha _ hsp) (hat s (by omega)) (hat _ (by omega)) (by omega)) ?_
          by_cases el : cb_lap n (a.getD s 0) (a.getD ((s + 1) % p) 0) x = cs s
          · refine rp_isSmooth_45_0 I J _ _ _ (vp_in_nI (by omega) (by decide)) (by rw [cls, es, el]) ?_
            rw [nI_1]
            exact ih (x + 1) (by omega) (fun y hy' => by
              by_cases ey : y = x
              · rw [ey]; exact ⟨e, fun _ => el⟩
              · exact hy y (by omega))
          · rw [bad s x hs (by omega) (fun q => el (q.2 e0))]
            exact rp_isSmooth_45_1 I J _ _ _ (vp_in_nI (by omega) (by decide)) (by rw [cls, es]; exact fun q => el ((nI_eq (by omega) (by omega)).mp q))
  have loop2 : ∀ (r s : Nat), s + r = p → (∀ s' x, s' < s → x < n → cb_b n a s' x ≠ x ∧ (cs s' ≠ 0 → cb_lap n (a.getD s' 0) (a.getD ((s' + 1) % p) 0) x = cs s')) → rk_go (rk_call (d + 2)) 61 (2, [some (.ref 0), some (.int (nI s)), none], [], (rk_R, I, J)) (some (.int (if cb_B (cb_sm n p cs a) then 1 else 0))) (rk_R, I, J) := by
    intro r
    induction r with
    | zero =>
      intro s hs h
      have : s = p := by omega
      subst this
      rw [cb_B_t (show cb_sm n s cs a from fun s' h1 x h2 => h s' x h1 h2), if_pos rfl]
      exact rp_isSmooth_2_0 I J _ (by rw [hc.2.1]; exact nI_le (Nat.le_refl s) (by omega))
    | succ r ih =>
      intro s hs h
      refine rp_isSmooth_2_1 I J _ (by rw [hc.2.1]; exact nI_ge (by omega) (by omega)) (loop12 s (by omega) ?_ h n 0 (Nat.zero_add n) (fun y hy => absurd hy (Nat.not_lt_zero y)))
      by_cases q : ∃ s' x, s' < s + 1 ∧ x < n ∧ ¬ (cb_b n a s' x ≠ x ∧ (cs s' ≠ 0 → cb_lap n (a.getD s' 0) (a.getD ((s' + 1) % p) 0) x = cs s'))
      · exact Or.inr q
      · exact Or.inl (ih (s + 1) (by omega) (fun s' x h1 h2 => Classical.byContradiction (fun z => q ⟨s', x, h1, h2, z⟩)))
  exact ij_cr_of (Nat.le_of_ble_eq_true rfl) (rp_isSmooth_0_0 I J (loop2 p 0 (Nat.zero_add p) (fun s' x h => absurd h (Nat.not_lt_zero s'))))
theorem rs_cp_30_34 (d : Nat) : ∃ I', rk_call (d + 1) 2 [.ref 0, .ref 30, .ref 34] (rk_R, I, J) none (rk_R, I', J) ∧ lk_cp 30 34 8 I I' := by
  obtain ⟨I', g1, g2, -, g4⟩ := rs_cp (rk_call d) J 30 34 8 (by decide) (by decide) (fun I x h => rp_copies_30_34_2_0 I J x (by decide) h) (fun I x τ h1 h2 h3 => rp_copies_30_34_2_1 I J x (by decide) h1 h2 h2 h3) 8 0 I (Nat.zero_add _)
  exact ⟨I', ij_cr_of (Nat.le_of_ble_eq_true rfl) (rp_copies_30_34_0_0 I J g1), fun k hk => g2 k (Nat.zero_le k) hk, g4⟩
/-- the kinds of drafts -/
noncomputable def cb_k1 (n p : Nat) (a : List Nat) : Bool := cb_B (cb_cn n p a)
noncomputable def cb_k2 (n p : Nat) (cs : Nat → Nat) (a : List Nat) : Bool := cb_B (cb_cn n p a ∧ cb_sm n p cs a)
noncomputable def cb_k3 (n p : Nat) (a : List Nat) : Bool := cb_B (cb_cn n p a ∧ cb_li n p a)
/-- what the reference has counted of the drafts l -/
def cb_V (n p : Nat) (cs : Nat → Nat) (l : List (List Nat)) (I : Nat → Nat → Int32) : Prop := I 0 55 = nI (l.countP (cb_k1 n p)) ∧ I 0 56 = nI (l.countP (cb_k2 n p cs)) ∧ I 0 57 = nI (l.countP (cb_k3 n p)) ∧ (match l.find? (cb_k2 n p cs) with | none => I 0 58 = 0 | some a => I 0 58 = 1 ∧ ∀ k, k < p → I 34 k = nI (a.getD k 0))
theorem cb_V_fr {l : List (List Nat)} {I I' : Nat → Nat → Int32} (h : ∀ q k, q ≠ 30 → ¬ (q = 0 ∧ k = 54) → I' q k = I q k) (hV : cb_V n p cs l I) : cb_V n p cs l I' := by
  obtain ⟨h1, h2, h3, h4⟩ := hV
  refine ⟨(h 0 55 (by decide) (by omega)).trans h1, (h 0 56 (by decide) (by omega)).trans h2, (h 0 57 (by decide) (by omega)).trans h3, ?_⟩
  revert h4
  cases l.find? (cb_k2 n p cs) with
  | none => intro h4; exact (h 0 58 (by decide) (by omega)).trans h4
  | some a => intro h4; exact ⟨(h 0 58 (by decide) (by omega)).trans h4.1, fun k hk => (h 34 k (by decide) (by omega)).trans (h4.2 k hk)⟩
theorem cb_countP1 {α : Type} (P : α → Bool) (l : List α) (a : α) : (l ++ [a]).countP P = l.countP P + (if P a then 1 else 0) := by
  rw [List.countP_append]
  congr 1
  cases h : P a
  · rw [List.countP_cons_of_neg (by rw [h]; decide)]; rfl
  · rw [List.countP_cons_of_pos h]; rfl
theorem rs_takes {l : List (List Nat)} (hn1 : 1 ≤ n) (hn : n < 7) (hp3 : 3 ≤ p) (hp : p ≤ 8) (hcs : ∀ j, j < p → cs j < 10) (hal : a.length = p) (ha : cb_ok n p a) (hc : cb_cx n p cs I) (hat : cb_at a I) (hV : cb_V n p cs l I) : ∃ I', rk_call (d + 4) 62 [.ref 0] (rk_R, I, J) none (rk_R, I', J) ∧ cb_V n p cs (l ++ [a]) I' ∧ ∀ q k, q ≠ 32 → q ≠ 33 → q ≠ 34 → ¬ (q = 0 ∧ 55 ≤ k ∧ k ≤ 58) → I' q k = I q k := by
  obtain ⟨V1, V2, V3, V4⟩ := hV
  obtain ⟨I1, n1, n2, n3⟩ := rs_numbers (d := d + 1) (J := J) (x := 0) hn hp hal ha (by omega) hc hat
  have hle := cb_g_le (cb_od_all hn ha (show 0 < n by omega)).1
  have hful := cb_od_full hn ha (show 0 < n by omega)
  have e53 : I1 0 53 = nI n := by rw [n3 0 (by decide) (by decide)]; exact hc.1.1
  have start : ∀ τ, rk_go (rk_call (d + 3)) 62 (5, [some (.ref 0), none, none, none, none], [.int (nI (cb_od n p a 0).length)], (rk_R, I1, J)) none τ → rk_call (d + 4) 62 [.ref 0] (rk_R, I, J) none τ := fun τ hg => ij_cr_of (Nat.le_of_ble_eq_true rfl) (rp_takes_0_0 I J _ n1 hg)
  by_cases con : cb_cn n p a
  · have hlen := hful.mpr con
    have hfx : ∀ x, x < n → (cb_od n p a x).length = n := fun x hx => (cb_od_full hn ha hx).mpr (fun y hy => cb_re_trans (cb_re_symm hn ha (by omega) (con x hx)) (con y hy))
    -- the loop over the tiles
    have loop : ∀ (r x : Nat) (K : Nat → Nat → Int32), x + r = n → (∀ q, q ≠ 32 → q ≠ 33 → K q = ij_u I1 0 55 (I1 0 55 + 1) q) → ∃ K' : Nat → Nat → Int32, (∀ q, q ≠ 32 → q ≠ 33 → K' q = ij_u I1 0 55 (I1 0 55 + 1) q) ∧ ∀ (x1 x2 : Int32) τ, (x1 = 1 ∧ (∀ y, y < x → ¬ cb_lt2 p n (cb_rn n p a y) (cb_b n a)) ∨ x1 = 0 ∧ ∃ y, y < x ∧ cb_lt2 p n (cb_rn n p a y) (cb_b n a)) → (x2 = 0 ∧ (∀ y, y < x → ¬ cb_eq2 p n (cb_rn n p a y) (cb_b n a)) ∨ x2 = 1 ∧ ∃ y, y < x ∧ cb_eq2 p n (cb_rn n p a y) (cb_b n a)) → (∀ (y1 y2 : Int32), (y1 = 1 ∧ (∀ y, y < n → ¬ cb_lt2 p n (cb_rn n p a y) (cb_b n a)) ∨ y1 = 0 ∧ ∃ y, y < n ∧ cb_lt2 p n (cb_rn n p a y) (cb_b n a)) → (y2 = 0 ∧ (∀ y, y < n → ¬ cb_eq2 p n (cb_rn n p a y) (cb_b n a)) ∨ y2 = 1 ∧ ∃ y, y < n ∧ cb_eq2 p n (cb_rn n p a y) (cb_b n a)) → rk_go (rk_call (d + 3)) 62 (29, [some (.ref 0), some (.int y1), some (.int y2), some (.int (nI n)), none], [], (rk_R, K', J)) none τ) → rk_go (rk_call (d + 3)) 62 (29, [some (.ref 0), some (.int x1), some (.int x2), some (.int (nI x)), none], [], (rk_R, K, J)) none τ := by
      intro r
      induction r with
      | zero =>
        intro x K hx hK
        have : x = n := by omega
        subst this
        exact ⟨K, hK, fun x1 x2 τ h1 h2 hg => hg x1 x2 h1 h2⟩
      | succ r ih =>
        intro x K hx hK
        have hcK : cb_cx n p cs K := cb_cx_fS (fun q k a1 a2 a3 a4 a5 => by rw [hK q a2 a3, lb_u_at (by omega), n3 q a2 a3]) hc
        have hatK : cb_at a K := fun k hk => by rw [hK 30 (by decide) (by decide), congrFun (ij_u_ne (by decide)) k, n3 30 (by decide) (by decide)]; exact hat k hk
        obtain ⟨K1, m1, m2, m3⟩ := rs_numbers (d := d + 1) (J := J) (x := x) hn hp hal ha (by omega) hcK hatK
        have hK1 : ∀ q, q ≠ 32 → q ≠ 33 → K1 q = ij_u I1 0 55 (I1 0 55 + 1) q := fun q a1 a2 => (m3 q a1 a2).trans (hK q a1 a2)
        have hcK1 : cb_cx n p cs K1 := cb_cx_fS (fun q k a1 a2 a3 a4 a5 => congrFun (m3 q a2 a3) k) hcK
        have hatK1 : cb_at a K1 := fun k hk => by rw [m3 30 (by decide) (by decide)]; exact hatK k hk
        obtain ⟨w, w1, w2, w3⟩ := rs_beside (d := d + 1) (J := J) hn hp hal ha (by omega) (hfx x (by omega)) hcK1 hatK1 m2
        obtain ⟨K', z1, z2⟩ := ih (x + 1) K1 (by omega) hK1
        refine ⟨K', z1, fun x1 x2 τ h1 h2 hg => ?_⟩
        refine rp_takes_29_3 K J _ _ _ (by rw [hcK.1.1]; exact nI_ge (by omega) (by omega)) _ m1 (rp_takes_42_0 K1 J _ _ _ _ _ w1 ?_)
        -- what is known behind this tile
        have k1 : ∀ y1 : Int32, (x1 = 0 ∨ w < 0 → y1 = 0) → (x1 = 1 → ¬ w < 0 → y1 = 1) → (y1 = 1 ∧ (∀ y, y < x + 1 → ¬ cb_lt2 p n (cb_rn n p a y) (cb_b n a)) ∨ y1 = 0 ∧ ∃ y, y < x + 1 ∧ cb_lt2 p n (cb_rn n p a y) (cb_b n a)) := fun y1 q1 q2 => by
          rcases h1 with ⟨e, h1⟩ | ⟨e, y, hy, h1⟩
          · by_cases hw : w < 0
            · exact Or.inr ⟨q1 (Or.inr hw), x, Nat.lt_succ_self x, w3.mp hw⟩
            · refine Or.inl ⟨q2 e hw, fun y hy => ?_⟩
              by_cases ey : y = x
              · rw [ey]; exact fun q => hw (w3.mpr q)
              · exact h1 y (by omega)
          · exact Or.inr ⟨q1 (Or.inl e), y, by omega, h1⟩
        have k2 : ∀ y2 : Int32, (x2 = 1 ∨ w = 0 → y2 = 1) → (x2 = 0 → ¬ w = 0 → y2 = 0) → (y2 = 0 ∧ (∀ y, y < x + 1 → ¬ cb_eq2 p n (cb_rn n p a y) (cb_b n a)) ∨ y2 = 1 ∧ ∃ y, y < x + 1 ∧ cb_eq2 p n (cb_rn n p a y) (cb_b n a)) := fun y2 q1 q2 => by
          rcases h2 with ⟨e, h2⟩ | ⟨e, y, hy, h2⟩
          · by_cases hw : w = 0
            · exact Or.inr ⟨q1 (Or.inr hw), x, Nat.lt_succ_self x, w2.mp hw⟩
            · refine Or.inl ⟨q2 e hw, fun y hy => ?_⟩
              by_cases ey : y = x
              · rw [ey]; exact fun q => hw (w2.mpr q)
              · exact h2 y (by omega)
          · exact Or.inr ⟨q1 (Or.inl e), y, by omega, h2⟩
        have x1c : x1 = 0 ∨ x1 = 1 := by rcases h1 with h | h <;> simp [h.1]
        have x2c : x2 = 0 ∨ x2 = 1 := by rcases h2 with h | h <;> simp [h.1]
        have nx : ∀ y1 y2 : Int32, (x1 = 0 ∨ w < 0 → y1 = 0) → (x1 = 1 → ¬ w < 0 → y1 = 1) → (x2 = 1 ∨ w = 0 → y2 = 1) → (x2 = 0 → ¬ w = 0 → y2 = 0) → rk_go (rk_call (d + 3)) 62 (29, [some (.ref 0), some (.int y1), some (.int y2), some (.int (nI x + 1)), none], [], (rk_R, K1, J)) none τ := fun y1 y2 q1 q2 q3 q4 => by
          rw [nI_1]
          exact z2 y1 y2 τ (k1 y1 q1 q2) (k2 y2 q3 q4) hg
        rcases x1c with e1 | e1 <;> rcases x2c with e2 | e2
        · by_cases hw : w = 0
          · exact rp_takes_47_2 K1 J _ _ _ _ e1 e2 hw (nx 0 1 (fun _ => rfl) (fun q => absurd (e1.symm.trans q) (by decide)) (fun _ => rfl) (fun _ q => absurd hw q))
          · exact rp_takes_47_1 K1 J _ _ _ _ e1 e2 hw (nx 0 0 (fun _ => rfl) (fun q => absurd (e1.symm.trans q) (by decide)) (fun q => by rcases q with q | q; exact absurd (e2.symm.trans q) (by decide); exact absurd q hw) (fun _ _ => rfl))
        · exact rp_takes_47_0 K1 J _ _ _ _ e1 (by rw [e2]; decide) (nx 0 1 (fun _ => rfl) (fun q => absurd (e1.symm.trans q) (by decide)) (fun _ => rfl) (fun q => absurd (e2.symm.trans q) (by decide)))
        · by_cases hw : w < 0
          · have hw0 : ¬ w = 0 := fun q => by rw [q] at hw; exact absurd hw (by decide)
            exact rp_takes_47_4 K1 J _ _ _ _ (by rw [e1]; decide) hw e2 hw0 (nx 0 0 (fun _ => rfl) (fun _ q => absurd hw q) (fun q => by rcases q with q | q; exact absurd (e2.symm.trans q) (by decide); exact absurd q hw0) (fun _ _ => rfl))
          · have nl : ¬ (x1 = 0 ∨ w < 0) := fun q => by rcases q with q | q; exact absurd (e1.symm.trans q) (by decide); exact hw q
            by_cases hw0 : w = 0
            · exact rp_takes_47_8 K1 J _ _ _ _ (by rw [e1]; decide) hw e2 hw0 (nx 1 1 (fun q => absurd q nl) (fun _ _ => rfl) (fun _ => rfl) (fun _ q => absurd hw0 q))
            · exact rp_takes_47_7 K1 J _ _ _ _ (by rw [e1]; decide) hw e2 hw0 (nx 1 0 (fun q => absurd q nl) (fun _ _ => rfl) (fun q => by rcases q with q | q; exact absurd (e2.symm.trans q) (by decide); exact absurd q hw0) (fun _ _ => rfl))
        · by_cases hw : w < 0
          · exact rp_takes_47_3 K1 J _ _ _ _ (by rw [e1]; decide) hw (by rw [e2]; decide) (nx 0 1 (fun _ => rfl) (fun _ q => absurd hw q) (fun _ => rfl) (fun q => absurd (e2.symm.trans q) (by decide)))
          · have nl : ¬ (x1 = 0 ∨ w < 0) := fun q => by rcases q with q | q; exact absurd (e1.symm.trans q) (by decide); exact hw q
            exact rp_takes_47_6 K1 J _ _ _ _ (by rw [e1]; decide) hw (by rw [e2]; decide) (nx 1 1 (fun q => absurd q nl) (fun _ _ => rfl) (fun _ => rfl) (fun q => absurd (e2.symm.trans q) (by decide)))
    obtain ⟨K', z1, z2⟩ := loop n 0 (ij_u I1 0 55 (I1 0 55 + 1)) (Nat.zero_add n) (fun _ _ _ => rfl)
    have eK : ∀ q k, q ≠ 32 → q ≠ 33 → ¬ (q = 0 ∧ k = 55) → K' q k = I q k := fun q k a1 a2 a3 => by rw [z1 q a1 a2, lb_u_at a3, n3 q a1 a2]
    have e55 : K' 0 55 = nI (l.countP (cb_k1 n p) + 1) := by
      rw [z1 0 (by decide) (by decide), ij_u_same, n3 0 (by decide) (by decide), V1, nI_1]
    -- behind the loop: K' with 57 set to u, then smooth
    have fin : ∀ (u : Int32), u = nI ((l ++ [a]).countP (cb_k3 n p)) → ∃ I', (∀ w, w = (if cb_B (cb_sm n p cs a) then (1 : Int32) else 0) → rk_go (rk_call (d + 3)) 62 (111, [some (.ref 0), none, none, none, none], [.int w], (rk_R, ij_u K' 0 57 u, J)) none (rk_R, I', J)) ∧ cb_V n p cs (l ++ [a]) I' ∧ ∀ q k, q ≠ 32 → q ≠ 33 → q ≠ 34 → ¬ (q = 0 ∧ 55 ≤ k ∧ k ≤ 58) → I' q k = I q k := by
      intro u hu
      have c1 : (l ++ [a]).countP (cb_k1 n p) = l.countP (cb_k1 n p) + 1 := by
        rw [cb_countP1, if_pos (show cb_k1 n p a = true from cb_B_t con)]
      have fr : ∀ q k, q ≠ 32 → q ≠ 33 → ¬ (q = 0 ∧ (k = 55 ∨ k = 57)) → ij_u K' 0 57 u q k = I q k := fun q k a1 a2 a3 => by rw [lb_u_at (by omega), eK q k a1 a2 (by omega)]
      by_cases sm : cb_sm n p cs a
      · have k2t : cb_k2 n p cs a = true := cb_B_t ⟨con, sm⟩
        have c2 : (l ++ [a]).countP (cb_k2 n p cs) = l.countP (cb_k2 n p cs) + 1 := by rw [cb_countP1, if_pos k2t]
        have e56 : ij_u K' 0 57 u 0 56 + 1 = nI (l.countP (cb_k2 n p cs) + 1) := by rw [fr 0 56 (by decide) (by decide) (by omega), V2, nI_1]
        cases hf : l.find? (cb_k2 n p cs) with
        | none =>
          rw [hf] at V4
          obtain ⟨I', p1, p2, p3⟩ := rs_cp_30_34 (I := ij_u (ij_u (ij_u K' 0 57 u) 0 56 (ij_u K' 0 57 u 0 56 + 1)) 0 58 1) (J := J) (d + 2)
          refine ⟨I', fun w hw => ?_, ⟨?_, ?_, ?_, ?_⟩, fun q k a1 a2 a3 a4 => ?_⟩
          · rw [hw, cb_B_t sm, if_pos rfl]
            exact rp_takes_111_0 _ J 1 (by decide) (by rw [fr 0 58 (by decide) (by decide) (by omega)]; exact V4) (Or.inr rfl) p1 (rp_takes_150_0 I' J)
          · rw [p3 0 55 (by decide), c1]; exact e55
          · rw [p3 0 56 (by decide), c2]; exact e56
          · rw [p3 0 57 (by decide)]; exact hu
          · rw [List.find?_append, hf]
            show match (none.or (List.find? (cb_k2 n p cs) [a])) with | none => _ | some a => _
            rw [List.find?_cons_of_pos k2t]
            refine ⟨(p3 0 58 (by decide)).trans rfl, fun k hk => ?_⟩
            rw [p2 k (by omega)]
            show K' 30 k = _
            rw [eK 30 k (by decide) (by decide) (by omega)]
            exact hat k (by omega)
          · rw [p3 q k a3, lb_u_at (by omega), lb_u_at (by omega)]
            exact fr q k a1 a2 (by omega)
        | some a0 =>
          rw [hf] at V4
          refine ⟨ij_u (ij_u K' 0 57 u) 0 56 (ij_u K' 0 57 u 0 56 + 1), fun w hw => ?_, ⟨?_, ?_, hu, ?_⟩, fun q k a1 a2 a3 a4 => ?_⟩
          · rw [hw, cb_B_t sm, if_pos rfl]
            exact rp_takes_111_1 _ J 1 (by decide) (by rw [fr 0 58 (by decide) (by decide) (by omega), V4.1]; decide)
          · rw [c1]; exact e55
          · rw [c2]; exact e56
          · rw [List.find?_append, hf]
            exact ⟨(fr 0 58 (by decide) (by decide) (by omega)).trans V4.1, fun k hk => (fr 34 k (by decide) (by decide) (by omega)).trans (V4.2 k hk)⟩
          · rw [lb_u_at (by omega)]
            exact fr q k a1 a2 (by omega)
      · have k2f : ¬ cb_k2 n p cs a = true := fun q => sm (cb_B_iff.mp q).2
        have c2 : (l ++ [a]).countP (cb_k2 n p cs) = l.countP (cb_k2 n p cs) := by rw [cb_countP1, if_neg k2f]; rfl
        refine ⟨ij_u K' 0 57 u, fun w hw => ?_, ⟨?_, ?_, hu, ?_⟩, fun q k a1 a2 a3 a4 => fr q k a1 a2 (by omega)⟩
        · rw [hw, cb_B_f sm]
          exact rp_takes_111_2 _ J 0 rfl
        · rw [c1]; exact e55
        · rw [c2]; exact (fr 0 56 (by decide) (by decide) (by omega)).trans V2
        · rw [List.find?_append, List.find?_cons_of_neg k2f]
          revert V4
          cases l.find? (cb_k2 n p cs) with
          | none => intro V4; exact (fr 0 58 (by decide) (by decide) (by omega)).trans V4
          | some a0 => intro V4; exact ⟨(fr 0 58 (by decide) (by decide) (by omega)).trans V4.1, fun k hk => (fr 34 k (by decide) (by decide) (by omega)).trans (V4.2 k hk)⟩
    have e57 : K' 0 57 = nI (l.countP (cb_k3 n p)) := (eK 0 57 (by decide) (by decide) (by omega)).trans V3
    have hsmo : ∀ u, rk_call (d + 3) 61 [.ref 0] (rk_R, ij_u K' 0 57 u, J) (some (.int (if cb_B (cb_sm n p cs a) then 1 else 0))) (rk_R, ij_u K' 0 57 u, J) := fun u => rs_isSmooth (d := d) hn hp3 hp hcs hal ha (cb_cx_fS (fun q k a1 a2 a3 a4 a5 => by rw [lb_u_at (by omega), eK q k a2 a3 (by omega)]) hc) (fun k hk => by rw [congrFun (ij_u_ne (by decide)) k, eK 30 k (by decide) (by decide) (by omega)]; exact hat k hk)
    have h53 : K' 0 53 ≤ nI n := by rw [eK 0 53 (by decide) (by decide) (by omega), hc.1.1]; exact nI_le (Nat.le_refl n) (by omega)
    by_cases li : cb_li n p a
    · obtain ⟨I', q1, q2, q3⟩ := fin (K' 0 57 + 1) (by rw [cb_countP1, if_pos (show cb_k3 n p a = true from cb_B_t ⟨con, li⟩), e57, nI_1])
      refine ⟨I', start _ (rp_takes_5_0 I1 J _ (by rw [e53, hlen]; exact nI_le (Nat.le_refl n) (by omega)) (z2 1 0 _ (Or.inl ⟨rfl, fun y hy => absurd hy (Nat.not_lt_zero y)⟩) (Or.inl ⟨rfl, fun y hy => absurd hy (Nat.not_lt_zero y)⟩) (fun y1 y2 hy1 hy2 => ?_))), q2, q3⟩
      have e1 : ¬ y1 = 0 := by
        rcases hy1 with ⟨e, -⟩ | ⟨-, y, hy, q⟩
        · rw [e]; decide
        · exact absurd q (li.1 y hy)
      have e2 : ¬ y2 = 0 := by
        rcases hy2 with ⟨-, q⟩ | ⟨e, -⟩
        · obtain ⟨y, hy, q'⟩ := li.2
          exact absurd q' (q y hy)
        · rw [e]; decide
      exact rp_takes_29_2 K' J y1 y2 (nI n) h53 e1 e2 _ (hsmo _) (q1 _ rfl)
    · obtain ⟨I', q1, q2, q3⟩ := fin (K' 0 57 + 0) (by rw [cb_countP1, if_neg (show ¬ cb_k3 n p a = true from fun q => li (cb_B_iff.mp q).2), e57, Int32.add_zero]; rfl)
      refine ⟨I', start _ (rp_takes_5_0 I1 J _ (by rw [e53, hlen]; exact nI_le (Nat.le_refl n) (by omega)) (z2 1 0 _ (Or.inl ⟨rfl, fun y hy => absurd hy (Nat.not_lt_zero y)⟩) (Or.inl ⟨rfl, fun y hy => absurd hy (Nat.not_lt_zero y)⟩) (fun y1 y2 hy1 hy2 => ?_))), q2, q3⟩
      by_cases e1 : y1 = 0
      · exact rp_takes_29_0 K' J y1 y2 (nI n) h53 e1 _ (hsmo _) (q1 _ rfl)
      · have h1 : ∀ y, y < n → ¬ cb_lt2 p n (cb_rn n p a y) (cb_b n a) := by
          rcases hy1 with ⟨-, q⟩ | ⟨e, -⟩
          · exact q
          · exact absurd e e1
        have e2 : y2 = 0 := by
          rcases hy2 with ⟨e, -⟩ | ⟨-, q⟩
          · exact e
          · exact absurd ⟨h1, q⟩ li
        exact rp_takes_29_1 K' J y1 y2 (nI n) h53 e1 e2 _ (hsmo _) (q1 _ rfl)
  · have hlt : (cb_od n p a 0).length < n := by
      have : (cb_od n p a 0).length ≠ n := fun q => con (hful.mp q)
      omega
    refine ⟨I1, start _ (rp_takes_5_1 I1 J _ (by rw [e53]; exact nI_ge hlt (by omega))), ?_, fun q k a1 a2 _ _ => congrFun (n3 q a1 a2) k⟩
    have k1f : ¬ cb_k1 n p a = true := fun q => con (cb_B_iff.mp q)
    have k2f : ¬ cb_k2 n p cs a = true := fun q => con (cb_B_iff.mp q).1
    have k3f : ¬ cb_k3 n p a = true := fun q => con (cb_B_iff.mp q).1
    refine ⟨?_, ?_, ?_, ?_⟩
    · rw [cb_countP1, if_neg k1f, n3 0 (by decide) (by decide)]; exact V1
    · rw [cb_countP1, if_neg k2f, n3 0 (by decide) (by decide)]; exact V2
    · rw [cb_countP1, if_neg k3f, n3 0 (by decide) (by decide)]; exact V3
    · rw [List.find?_append, List.find?_cons_of_neg k2f]
      revert V4
      cases l.find? (cb_k2 n p cs) with
      | none => intro V4; exact (congrFun (n3 0 (by decide) (by decide)) 58).trans V4
      | some a0 => intro V4; exact ⟨(congrFun (n3 0 (by decide) (by decide)) 58).trans V4.1, fun k hk => (congrFun (n3 34 (by decide) (by decide)) k).trans (V4.2 k hk)⟩
end CT1
