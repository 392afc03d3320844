/-! ===== the plane under way: a new tile (2) ===== -/
section PN2
variable {p n t s : Nat} {ac : Nat → Nat → Nat} {rg : Nat → Nat} {cs : Nat → Nat} {V1 V2 : Nat → Nat → Nat}
theorem rv_w1_u {W : Nat → Nat} {x y : Nat} (hx : x < n) : rv_w1 p cs (rv_u V1 n W) x y = rv_w1 p cs V1 x y := by
  unfold rv_w1
  rw [rv_u_t hx]
theorem rv_w2_u {W : Nat → Nat} {x y : Nat} (hx : x < n) : rv_w2 p cs (rv_u V2 n W) x y = rv_w2 p cs V2 x y := by
  unfold rv_w2
  rw [rv_u_t hx]
theorem pi_new (hp4 : 4 ≤ p) (hcs : ∀ j, j < p → cs j < 10 ∧ cs j ≠ 1) (h : pi_t p cs n ac rg V1 V2 t s) (hs : s < p) (hn : n < 2000) (ha : ¬ ac t s < 2000) : pi_t p cs (n + 1) (nb_a4 p cs ac rg n t s) (nb_rg rg n t) (rv_u V1 n (rv_w1 p cs V1 t s)) (rv_u V2 n (rv_w2 p cs V2 t s)) t (s + 1) := by
  have h0 := h
  obtain ⟨k1, k2⟩ := pi_f hp4 hcs h hs hn ha
  obtain ⟨pf1, pf2⟩ := pi_pf hp4 hcs h hs hn ha
  obtain ⟨⟨ht, n2, _, rg0, hg⟩, ⟨hall, hal, hrg, hpar⟩, hadj, hres, hV, hlt, hV0⟩ := h
  have hp3 : 3 ≤ p := by omega
  obtain ⟨o1, o2, o3, o4, o5⟩ := nb_sides hp3 hs
  have not2 : nb_f1 p cs ac rg n t s < 2000 → nb_f2 p cs ac rg n t s < 2000 → False := fun c1 c2 => by
    rcases k1 with ⟨q, _⟩ | ⟨_, _, q1, _⟩
    · exact q c1
    · rcases k2 with ⟨q, _⟩ | ⟨_, _, q2, _⟩
      · exact q c2
      · exact pi_one hp4 h0 hs q1 q2
  have rgf1 : nb_f1 p cs ac rg n t s < 2000 → rg (nb_f1 p cs ac rg n t s) = rg t ∧ ac (nb_f1 p cs ac rg n t s) s < nb_f1 p cs ac rg n t s := fun c => by
    rcases k1 with ⟨q, _⟩ | ⟨_, _, _, _, q1, q2, _⟩
    · exact absurd c q
    · exact ⟨q2, q1⟩
  have rgf2 : nb_f2 p cs ac rg n t s < 2000 → rg (nb_f2 p cs ac rg n t s) = rg t ∧ ac (nb_f2 p cs ac rg n t s) s < nb_f2 p cs ac rg n t s := fun c => by
    rcases k2 with ⟨q, _⟩ | ⟨_, _, _, _, q1, q2, _⟩
    · exact absurd c q
    · exact ⟨q2, q1⟩
  have vf1 : nb_f1 p cs ac rg n t s < 2000 → rv_e p (rv_w1 p cs V1 t s) (rv_w2 p cs V2 t s) (rv_w1 p cs V1 (nb_f1 p cs ac rg n t s) ((s + 1) % p)) (rv_w2 p cs V2 (nb_f1 p cs ac rg n t s) ((s + 1) % p)) := fun c => by
    rcases k1 with ⟨q, _⟩ | ⟨q0, q1, _, _, _, _, a, b, z, q2, _, q3, q4, q5⟩
    · exact absurd c q
    · obtain ⟨am1, am2⟩ := an_m_1 (cs := cs) hp3 hs
      refine pi_turn h0 ht q0 (by omega) (by omega) (by omega) q1 (hcs s hs).1 ?_ q3 ?_ q4 q5
      · rcases q2 with ⟨x1, x2⟩ | ⟨x1, x2⟩ <;> rw [x1, x2]
        · exact ⟨am1, am2⟩
        · exact ⟨am2, am1⟩
      · rcases al_or a b (cs s - 1) with ⟨g1, g2⟩ | ⟨g1, g2⟩ <;> omega
  have vf2 : nb_f2 p cs ac rg n t s < 2000 → rv_e p (rv_w1 p cs V1 t s) (rv_w2 p cs V2 t s) (rv_w1 p cs V1 (nb_f2 p cs ac rg n t s) ((s + p - 1) % p)) (rv_w2 p cs V2 (nb_f2 p cs ac rg n t s) ((s + p - 1) % p)) := fun c => by
    rcases k2 with ⟨q, _⟩ | ⟨q0, q1, _, _, _, _, a, b, z, q2, _, q3, q4, q5⟩
    · exact absurd c q
    · obtain ⟨am1, am2⟩ := an_m_1 (cs := cs) hp3 o5
      rw [md_3 hs] at am1 am2
      refine pi_turn h0 ht q0 (by omega) (by omega) (by omega) q1 (hcs _ o5).1 ?_ q3 ?_ q4 q5
      · rcases q2 with ⟨x1, x2⟩ | ⟨x1, x2⟩ <;> rw [x1, x2]
        · exact ⟨am2, am1⟩
        · exact ⟨am1, am2⟩
      · rcases al_or a b (cs ((s + p - 1) % p) - 1) with ⟨g1, g2⟩ | ⟨g1, g2⟩ <;> omega
  have hAx : ∀ x y, x < n → nb_a4 p cs ac rg n t s x y = if (nb_f2 p cs ac rg n t s < 2000 ∧ x = nb_f2 p cs ac rg n t s ∧ y = (s + p - 1) % p) ∨ (nb_f1 p cs ac rg n t s < 2000 ∧ x = nb_f1 p cs ac rg n t s ∧ y = (s + 1) % p) ∨ (x = t ∧ y = s) then n else ac x y := fun x y hx => nb_a4_x ht hn hx
  have hAn : ∀ y, nb_a4 p cs ac rg n t s n y = if nb_f2 p cs ac rg n t s < 2000 ∧ y = (s + p - 1) % p then nb_f2 p cs ac rg n t s else if nb_f1 p cs ac rg n t s < 2000 ∧ y = (s + 1) % p then nb_f1 p cs ac rg n t s else if y = s then t else 2000 := fun y => nb_a4_n ht pf1 pf2 hn
  have rgx : ∀ x, x < n → nb_rg rg n t x = rg x := fun x hx => if_neg (by omega)
  have rgn : nb_rg rg n t n = rg t + 1 := if_pos rfl
  generalize hF1 : nb_f1 p cs ac rg n t s = F1 at *
  generalize hF2 : nb_f2 p cs ac rg n t s = F2 at *
  generalize hA : nb_a4 p cs ac rg n t s = A at *
  generalize hG : nb_rg rg n t = G at *
  generalize hr1 : (s + 1) % p = r1 at *
  generalize hr2 : (s + p - 1) % p = r2 at *
  -- where there is a new neighbour there was none
  have cnd : ∀ x y, x < n → (F2 < 2000 ∧ x = F2 ∧ y = r2) ∨ (F1 < 2000 ∧ x = F1 ∧ y = r1) ∨ (x = t ∧ y = s) → ¬ ac x y < 2000 ∧ A n y = x ∧ rg x = rg t := fun x y hx c => by
    rcases c with ⟨c1, c2, c3⟩ | ⟨c1, c2, c3⟩ | ⟨c1, c2⟩
    · refine ⟨by rw [c2, c3]; exact (pf2 c1).2.2, ?_, by rw [c2]; exact (rgf2 c1).1⟩
      rw [hAn y, if_pos ⟨c1, c3⟩, c2]
    · refine ⟨by rw [c2, c3]; exact (pf1 c1).2.2, ?_, by rw [c2]; exact (rgf1 c1).1⟩
      rw [hAn y, if_neg (fun z => not2 c1 z.1), if_pos ⟨c1, c3⟩, c2]
    · refine ⟨by rw [c1, c2]; exact ha, ?_, by rw [c1]⟩
      rw [hAn y, if_neg (fun z => o2 (z.2.symm.trans c2)), if_neg (fun z => o1 (z.2.symm.trans c2)), if_pos c2, c1]
  have old : ∀ x y, x < n → y < p → ac x y < 2000 → A x y = ac x y := fun x y hx hy hz => by
    rw [hAx x y hx, if_neg]
    exact fun c => (cnd x y hx c).1 hz
  have ndw : ∀ x y, x < n → y < p → ¬ ac x y < x → ¬ A x y < x := fun x y hx hy hz => by
    rw [hAx x y hx]
    by_cases c : (F2 < 2000 ∧ x = F2 ∧ y = r2) ∨ (F1 < 2000 ∧ x = F1 ∧ y = r1) ∨ (x = t ∧ y = s)
    · rw [if_pos c]; omega
    · rw [if_neg c]; exact hz
  have dwx : ∀ x y, x < n → y < p → A x y < x → ac x y < x := fun x y hx hy hz => by
    by_cases c : ac x y < x
    · exact c
    · exact absurd hz (ndw x y hx hy c)
  -- the new tile's neighbours
  have nbn : ∀ y, A n y < 2000 → (y = s ∧ A n y = t) ∨ (y = r1 ∧ F1 < 2000 ∧ A n y = F1) ∨ (y = r2 ∧ F2 < 2000 ∧ A n y = F2) := fun y hz => by
    rw [hAn y] at hz ⊢
    by_cases c2 : F2 < 2000 ∧ y = r2
    · rw [if_pos c2]; exact Or.inr (Or.inr ⟨c2.2, c2.1, rfl⟩)
    · rw [if_neg c2] at hz ⊢
      by_cases c1 : F1 < 2000 ∧ y = r1
      · rw [if_pos c1]; exact Or.inr (Or.inl ⟨c1.2, c1.1, rfl⟩)
      · rw [if_neg c1] at hz ⊢
        by_cases c0 : y = s
        · rw [if_pos c0]; exact Or.inl ⟨c0, rfl⟩
        · rw [if_neg c0] at hz; omega
  have en : A n s = t := by rw [hAn s, if_neg (fun z => o2 z.2.symm), if_neg (fun z => o1 z.2.symm), if_pos rfl]
  have et : A t s = n := by rw [hAx t s ht, if_pos (Or.inr (Or.inr ⟨rfl, rfl⟩))]
  have e1n : F1 < 2000 → A n r1 = F1 ∧ A F1 r1 = n := fun c => ⟨by rw [hAn r1, if_neg (fun z => not2 c z.1), if_pos ⟨c, rfl⟩], by rw [hAx F1 r1 (pf1 c).2.1, if_pos (Or.inr (Or.inl ⟨c, rfl, rfl⟩))]⟩
  have e2n : F2 < 2000 → A n r2 = F2 ∧ A F2 r2 = n := fun c => ⟨by rw [hAn r2, if_pos ⟨c, rfl⟩], by rw [hAx F2 r2 (pf2 c).2.1, if_pos (Or.inl ⟨c, rfl, rfl⟩)]⟩
  have n1n : ¬ F1 < 2000 → ¬ A n r1 < n := fun c => by
    rw [hAn r1, if_neg (fun z => o3 z.2), if_neg (fun z => c z.1), if_neg o1]; omega
  have n2n : ¬ F2 < 2000 → ¬ A n r2 < n := fun c => by
    rw [hAn r2, if_neg (fun z => c z.1), if_neg (fun z => o3 z.2.symm), if_neg o2]; omega
  have other : ∀ y, y ≠ s → y ≠ r1 → y ≠ r2 → ¬ A n y < n := fun y c0 c1 c2 => by
    rw [hAn y, if_neg (fun z => c2 z.2), if_neg (fun z => c1 z.2), if_neg c0]; omega
  refine ⟨⟨by omega, hn, hs, ?_, ⟨fun x y hx hy hz => ?_, fun x u hx hu => ?_⟩⟩, ⟨fun x y hx hy => ?_, fun y hy => ?_, fun x hx => ?_, fun x h0 hx => ?_⟩, fun x y y' hx hy hy' d1 d2 => ?_, fun x a hx hap => ?_, fun x y hx hy hl hz => ?_, fun x j hx hj => ?_, fun j => ?_⟩
  · rw [rgx 0 (by omega)]; exact rg0
  · by_cases e : x = n
    · subst e
      rcases nbn y hz with ⟨c0, c1⟩ | ⟨c0, c1, c2⟩ | ⟨c0, c1, c2⟩
      · rw [c1, c0, et, rgx t ht, rgn]; exact ⟨by omega, rfl, Or.inr rfl⟩
      · rw [c2, c0, (e1n c1).2, rgx F1 (pf1 c1).2.1, rgn, (rgf1 c1).1]; exact ⟨Nat.lt_succ_of_lt (pf1 c1).2.1, rfl, Or.inr rfl⟩
      · rw [c2, c0, (e2n c1).2, rgx F2 (pf2 c1).2.1, rgn, (rgf2 c1).1]; exact ⟨Nat.lt_succ_of_lt (pf2 c1).2.1, rfl, Or.inr rfl⟩
    · have hx' : x < n := by omega
      have ex := hAx x y hx'
      by_cases c : (F2 < 2000 ∧ x = F2 ∧ y = r2) ∨ (F1 < 2000 ∧ x = F1 ∧ y = r1) ∨ (x = t ∧ y = s)
      · obtain ⟨_, q1, q2⟩ := cnd x y hx' c
        rw [if_pos c] at ex
        rw [ex, q1, rgn, rgx x hx', q2]
        exact ⟨by omega, rfl, Or.inl rfl⟩
      · rw [if_neg c] at ex
        rw [ex] at hz
        obtain ⟨q1, q2, q3⟩ := hg.1 x y hx' hy hz
        rw [ex, old _ y q1 hy (by omega), rgx x hx', rgx _ q1]
        exact ⟨by omega, q2, q3⟩
  · by_cases e : u = n
    · subst e
      rw [rgn]
      by_cases e2 : x = u
      · rw [e2, rgn]; exact Nat.le_refl _
      · rw [rgx x (by omega)]; exact hrg x (by omega)
    · rw [rgx x (by omega), rgx u (by omega)]; exact hg.2 x u hx (by omega)
  · rw [old x y (by omega) hy (hall x y hx hy)]; exact hall x y hx hy
  · by_cases e : y = s
    · rw [e, et]; exact hn
    · rw [old t y ht (by omega) (hal y (by omega))]; exact hal y (by omega)
  · rw [rgx t ht]
    by_cases e : x = n
    · rw [e, rgn]; exact Nat.le_refl _
    · rw [rgx x (by omega)]; exact hrg x (by omega)
  · by_cases e : x = n
    · rw [e]
      exact ⟨s, hs, by rw [en]; exact ht⟩
    · obtain ⟨y, y1, y2⟩ := hpar x h0 (by omega)
      exact ⟨y, y1, by rw [old x y (by omega) y1 (by omega)]; exact y2⟩
  · by_cases e : x = n
    · subst e
      have q := nbn y (by omega)
      have q' := nbn y' (by omega)
      have e3 := md_3 hs
      rw [hr2] at e3
      rcases q with ⟨c0, _⟩ | ⟨c0, c1, _⟩ | ⟨c0, c1, _⟩ <;> rcases q' with ⟨g0, _⟩ | ⟨g0, g1, _⟩ | ⟨g0, g1, _⟩
      · left; rw [c0, g0]
      · right; left; rw [c0, g0]; exact hr1.symm
      · right; right; rw [c0, g0]; exact e3.symm
      · right; right; rw [c0, g0]; exact hr1.symm
      · left; rw [c0, g0]
      · exact absurd g1 (fun z => not2 c1 z)
      · right; left; rw [c0, g0]; exact e3.symm
      · exact absurd c1 (fun z => not2 g1 z)
      · left; rw [c0, g0]
    · have hx' : x < n := by omega
      exact hadj x y y' hx' hy hy' (dwx x y hx' hy d1) (dwx x y' hx' hy' d2)
  · have hbp : (a + 1) % p < p := Nat.mod_lt _ (by omega)
    by_cases e : x = n
    · subst e
      have e3 := md_3 hs
      rw [hr2] at e3
      by_cases c0 : a = s
      · rw [c0, hr1]
        exact res_new hs o4 (fun z => o1 z.symm) ht hn old ndw en et k1 n1n e1n
      · by_cases c1 : (a + 1) % p = s
        · have ea : a = r2 := by
            rcases md_1 hap with ⟨x1, x2⟩ | ⟨x1, x2⟩ <;> rcases md_2 hs with ⟨x3, x4⟩ | ⟨x3, x4⟩ <;> omega
          rw [c1, ea]
          exact res_symm (res_new hs o5 (fun z => o2 z.symm) ht hn old ndw en et k2 n2n e2n)
        · have nar2 : a ≠ r2 := fun z => c1 (by rw [z]; exact e3)
          have nbr1 : (a + 1) % p ≠ r1 := fun z => by
            rcases md_1 hap with ⟨x1, x2⟩ | ⟨x1, x2⟩ <;> rcases md_1 hs with ⟨x3, x4⟩ | ⟨x3, x4⟩ <;> omega
          by_cases c2 : a = r1 ∧ F1 < 2000
          · obtain ⟨g1, g2⟩ := e1n c2.2
            have nf2 : ¬ F2 < 2000 := fun z => not2 c2.2 z
            have lf := (pf1 c2.2).2.1
            refine res_side (hcs a hap).2 lf hn (by rw [c2.1]; exact g1) (by rw [c2.1]; exact g2) ?_ ?_
            · refine ndw F1 _ lf hbp (fun z => ?_)
              have q := hadj F1 s ((a + 1) % p) lf hs hbp (rgf1 c2.2).2 z
              have ea := c2.1
              rcases md_1 hs with ⟨x1, x2⟩ | ⟨x1, x2⟩ <;> rcases md_1 hap with ⟨x3, x4⟩ | ⟨x3, x4⟩ <;> rcases md_1 hbp with ⟨x5, x6⟩ | ⟨x5, x6⟩ <;> omega
            · by_cases w : (a + 1) % p = r2
              · rw [w]; exact n2n nf2
              · exact other _ c1 nbr1 w
          · by_cases c3 : (a + 1) % p = r2 ∧ F2 < 2000
            · obtain ⟨g1, g2⟩ := e2n c3.2
              have nf1 : ¬ F1 < 2000 := fun z => not2 z c3.2
              have lf := (pf2 c3.2).2.1
              refine res_symm (res_side (hcs a hap).2 lf hn (by rw [c3.1]; exact g1) (by rw [c3.1]; exact g2) ?_ ?_)
              · refine ndw F2 _ lf hap (fun z => ?_)
                have q := hadj F2 s a lf hs hap (rgf2 c3.2).2 z
                have ea := c3.1
                rcases md_2 hs with ⟨x1, x2⟩ | ⟨x1, x2⟩ <;> rcases md_1 hap with ⟨x3, x4⟩ | ⟨x3, x4⟩ <;> rcases md_1 hs with ⟨x5, x6⟩ | ⟨x5, x6⟩ <;> omega
              · by_cases w : a = r1
                · rw [w]; exact n1n nf1
                · exact other _ c0 w nar2
            · refine res_foot ?_ ?_
              · by_cases w : a = r1
                · rw [w]; exact n1n (fun z => c2 ⟨w, z⟩)
                · exact other _ c0 w nar2
              · by_cases w : (a + 1) % p = r2
                · rw [w]; exact n2n (fun z => c3 ⟨w, z⟩)
                · exact other _ c1 nbr1 w
    · exact res_mono hap hbp (by omega) old ndw (hres x a (by omega) hap)
  · have hx' : x < n := by
      by_cases e : x = n
      · subst e
        rcases nbn y hz with ⟨_, c1⟩ | ⟨_, c1, c2⟩ | ⟨_, c1, c2⟩
        · omega
        · have := (pf1 c1).2.1; omega
        · have := (pf2 c1).2.1; omega
      · omega
    have ex := hAx x y hx'
    rw [rv_w1_u hx', rv_w2_u hx']
    by_cases c : (F2 < 2000 ∧ x = F2 ∧ y = r2) ∨ (F1 < 2000 ∧ x = F1 ∧ y = r1) ∨ (x = t ∧ y = s)
    · rw [if_pos c] at ex
      rw [ex, rv_u_n, rv_u_n]
      rcases c with ⟨c1, c2, c3⟩ | ⟨c1, c2, c3⟩ | ⟨c1, c2⟩
      · rw [c2, c3]; exact vf2 c1
      · rw [c2, c3]; exact vf1 c1
      · rw [c1, c2]; exact fun j _ => ⟨rfl, rfl⟩
    · rw [if_neg c] at ex
      rw [ex] at hl hz ⊢
      have q1 := (hg.1 x y hx' hy hz).1
      rw [rv_u_t q1, rv_u_t q1]
      exact hV x y hx' hy hl hz
  · by_cases e : x = n
    · rw [e, rv_u_n, rv_u_n]
      exact ⟨tn_r_lt (by decide) _ _ _ _, tn_r_lt (by decide) _ _ _ _⟩
    · rw [rv_u_t (by omega), rv_u_t (by omega)]
      exact hlt x j (by omega) hj
  · rw [rv_u_t (by omega), rv_u_t (by omega)]
    exact hV0 j
end PN2
