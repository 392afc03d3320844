/-! ===== closed boards: the reference lists the rows ===== -/
theorem nI_dec (a : Nat) : nI (a + 1) + (-1) = nI a := by
  rw [show (-1 : Int32) = -(nI 1) from rfl, ← Int32.sub_eq_add_neg, pk_sub (by omega)]
  rfl
theorem nI_sub1 {a : Nat} (h : 1 ≤ a) : nI a - 1 = nI (a - 1) := by
  rw [show (1 : Int32) = nI 1 from rfl, pk_sub h]
def cb_tp (n : Nat) (w : List Nat) (I : Nat → Nat → Int32) : Prop := ∀ x, x < n → I 31 x = nI (cb_pv n w x)
def cb_tr (n : Nat) (acc : List (List Nat)) (I : Nat → Nat → Int32) : Prop := I 0 52 = nI acc.length ∧ ∀ i, i < acc.length → ∀ x, x < n → I 29 (6 * i + x) = nI ((acc.getD i []).getD x 0)
def cb_fl (I I' : Nat → Nat → Int32) : Prop := ∀ p k, p ≠ 29 → p ≠ 31 → ¬ (p = 0 ∧ k = 52) → I' p k = I p k
theorem cb_fl_refl (I : Nat → Nat → Int32) : cb_fl I I := fun _ _ _ _ _ => rfl
theorem cb_fl_trans {I I' I'' : Nat → Nat → Int32} (h : cb_fl I I') (h' : cb_fl I' I'') : cb_fl I I'' := fun p k a1 a2 a3 => (h' p k a1 a2 a3).trans (h p k a1 a2 a3)
section CB1
variable {C : ij_R} {n : Nat} {J : Nat → Nat → Int64} {v : Option Value} {τ : ij_S}
theorem rs_lis0 {I : Nat → Nat → Int32} (hn6 : n ≤ 6) (hg : rk_go C 55 (136, [some (.ref 0), some (.int (nI n)), none, none, some (.int (nI n - 1))], [], (rk_R, I, J)) v τ) : ∀ (r j : Nat), j + r = n → rk_go C 55 (41, [some (.ref 0), some (.int (nI n)), none, some (.int 0), some (.int (nI j))], [], (rk_R, I, J)) v τ := by
  intro r
  induction r with
  | zero =>
    intro j hj
    have : j = n := by omega
    subst this
    exact rp_lists_41_0 I J (nI j) 0 (nI j) (nI_le (Nat.le_refl j) (by omega)) rfl hg
  | succ r ih =>
    intro j hj
    have k := ih (j + 1) (by omega)
    rw [← nI_1] at k
    exact rp_lists_41_2 I J (nI n) 0 (nI j) (nI_ge (by omega) (by omega)) rfl k
theorem rs_lis {I : Nat → Nat → Int32} {w : List Nat} (hn6 : n ≤ 6) (hw : ∀ x, x < n → cb_pv n w x < n) (ht : cb_tp n w I) (h1 : (∀ x, x < n → cb_pv n w (cb_pv n w x) = x) → rk_go C 55 (87, [some (.ref 0), some (.int (nI n)), none, none, some (.int 0)], [], (rk_R, I, J)) v τ) (h0 : (∃ x, x < n ∧ ¬ cb_pv n w (cb_pv n w x) = x) → rk_go C 55 (136, [some (.ref 0), some (.int (nI n)), none, none, some (.int (nI n - 1))], [], (rk_R, I, J)) v τ) : ∀ (r j : Nat), j + r = n → (∀ x, x < j → cb_pv n w (cb_pv n w x) = x) → rk_go C 55 (41, [some (.ref 0), some (.int (nI n)), none, some (.int 1), some (.int (nI j))], [], (rk_R, I, J)) v τ := by
  intro r
  induction r with
  | zero =>
    intro j hj hx
    have : j = n := by omega
    subst this
    exact rp_lists_41_1 I J (nI j) 1 (nI j) (nI_le (Nat.le_refl j) (by omega)) (by decide) (h1 hx)
  | succ r ih =>
    intro j hj hx
    have cl : (nI j).toNatClampNeg = j := nI_clamp (by omega)
    have e1 := ht j (by omega)
    have l1 := hw j (by omega)
    have cl2 : (nI (cb_pv n w j)).toNatClampNeg = cb_pv n w j := nI_clamp (by omega)
    have e2 := ht (cb_pv n w j) l1
    have hge : ¬ nI n ≤ nI j := nI_ge (by omega) (by omega)
    by_cases e : cb_pv n w (cb_pv n w j) = j
    · have k := ih (j + 1) (by omega) (fun x q => by
        by_cases e' : x = j
        · rw [e']; exact e
        · exact hx x (by omega))
      rw [← nI_1] at k
      exact rp_lists_41_4 I J (nI n) 1 (nI j) hge (by decide) (vp_in_nI (by omega) (by decide)) (by rw [cl, e1]; exact vp_in_nI (by omega) (by decide)) (by rw [cl, e1, cl2, e2, e]) k
    · have k := rs_lis0 (C := C) (J := J) (v := v) (τ := τ) hn6 (h0 ⟨j, by omega, e⟩) r (j + 1) (by omega)
      rw [← nI_1] at k
      exact rp_lists_41_3 I J (nI n) 1 (nI j) hge (by decide) (vp_in_nI (by omega) (by decide)) (by rw [cl, e1]; exact vp_in_nI (by omega) (by decide)) (by rw [cl, e1, cl2, e2]; exact fun q => e ((nI_eq (by have := hw _ l1; omega) (by omega)).mp q)) k
/-- a row is written -/
theorem rs_lwr {k : Nat} (hn6 : n ≤ 6) (hk : k < 80) : ∀ (r j : Nat) (I : Nat → Nat → Int32), j + r = n → I 0 52 = nI k → ∃ I' : Nat → Nat → Int32, (∀ v τ, rk_go C 55 (136, [some (.ref 0), some (.int (nI n)), none, none, some (.int (nI n - 1))], [], (rk_R, I', J)) v τ → rk_go C 55 (87, [some (.ref 0), some (.int (nI n)), none, none, some (.int (nI j))], [], (rk_R, I, J)) v τ) ∧ (∀ x, j ≤ x → x < n → I' 29 (6 * k + x) = I 31 x) ∧ (∀ y, (y < 6 * k + j ∨ 6 * k + n ≤ y) → I' 29 y = I 29 y) ∧ I' 0 52 = nI (k + 1) ∧ ∀ p y, p ≠ 29 → ¬ (p = 0 ∧ y = 52) → I' p y = I p y := by
  intro r
  induction r with
  | zero =>
    intro j I hj h52
    have : j = n := by omega
    subst this
    refine ⟨ij_u I 0 52 (I 0 52 + 1), fun v τ hg => rp_lists_87_0 I J (nI j) (nI j) (nI_le (Nat.le_refl j) (by omega)) hg, fun x h1 h2 => by omega, fun y _ => rfl, ?_, fun p y h1 h2 => lb_u_at h2⟩
    show I 0 52 + 1 = _
    rw [h52, nI_1]
  | succ r ih =>
    intro j I hj h52
    have cl : (nI j).toNatClampNeg = j := nI_clamp (by omega)
    have e6 : 6 * nI k + nI j = nI (6 * k + j) := by
      rw [show (6 : Int32) = nI 6 from rfl, pk_mul]
      exact (Int32.ofNat_add _ _).symm
    obtain ⟨I', g1, g2, g3, g4, g5⟩ := ih (j + 1) (ij_u I 29 (6 * k + j) (I 31 j)) (by omega) h52
    refine ⟨I', fun v τ hg => ?_, fun x h1 h2 => ?_, fun y hy => ?_, g4, fun p y h1 h2 => (g5 p y h1 h2).trans (lb_u_at (fun e => h1 e.1))⟩
    · have q := rp_lists_87_1 (C := C) (v := v) (τ := τ) I J (nI n) (nI j) (nI_ge (by omega) (by omega)) (vp_in_nI (by omega) (by decide))
      rw [h52, e6, nI_clamp (by omega), cl, nI_1] at q
      exact q (vp_in_nI (by omega) (by decide)) (g1 v τ hg)
    · by_cases e : x = j
      · subst e
        rw [g3 _ (by omega), ij_u_same]
      · exact g2 x (by omega) h2
    · rw [g3 y (by omega)]
      exact ij_u_other _ _ _ _ (by omega)
/-- the next word, or none -/
theorem rs_lnx (hn1 : 1 ≤ n) (hn6 : n ≤ 6) : ∀ (ds : List Nat) (i : Nat) (I : Nat → Nat → Int32), i + ds.length = n → (∀ d, d ∈ ds → d < n) → cb_tp n (List.replicate i 0 ++ ds) I → ∃ I' : Nat → Nat → Int32, (∀ p y, p ≠ 31 → I' p y = I p y) ∧ (match cb_inc n ds with | none => True | some l => cb_tp n (List.replicate i 0 ++ l) I' ∧ l.length = ds.length ∧ ∀ d, d ∈ l → d < n) ∧ ∀ v τ, rk_go C 55 (32, [some (.ref 0), some (.int (nI n)), some (.int (match cb_inc n ds with | none => 0 | some _ => 1)), none, none], [], (rk_R, I', J)) v τ → rk_go C 55 (136, [some (.ref 0), some (.int (nI n)), none, none, some (.int (nI ds.length + (-1)))], [], (rk_R, I, J)) v τ := by
  intro ds
  induction ds with
  | nil =>
    intro i I hi hd ht
    refine ⟨I, fun _ _ _ => rfl, trivial, fun v τ hg => ?_⟩
    exact rp_lists_136_0 I J (nI n) (nI 0 + (-1)) (by decide) (by decide) rfl hg
  | cons d ds ih =>
    intro i I hi hd ht
    have hi' : i + (ds.length + 1) = n := hi
    have ed : I 31 ds.length = nI d := by
      rw [ht ds.length (by omega)]
      unfold cb_pv
      rw [show n - 1 - ds.length = i by omega, List.getD_eq_getElem?_getD, List.getElem?_append_right (by simp), List.length_replicate, Nat.sub_self]
      rfl
    have cl : (nI ds.length).toNatClampNeg = ds.length := nI_clamp (by omega)
    have e4 : nI (d :: ds).length + (-1) = nI ds.length := nI_dec ds.length
    have dn : d < n := hd d (List.mem_cons_self ..)
    by_cases e : d + 1 = n
    · have hinc : cb_inc n (d :: ds) = (cb_inc n ds).map (fun l => 0 :: l) := by
        show (if d + 1 = n then _ else _) = _
        rw [if_pos e]
      have ht2 : cb_tp n (List.replicate (i + 1) 0 ++ ds) (ij_u I 31 ds.length 0) := fun x hx => by
        unfold cb_pv
        by_cases ex : x = ds.length
        · subst ex
          rw [ij_u_same, show n - 1 - ds.length = i by omega, List.getD_eq_getElem?_getD, List.getElem?_append_left (by simp), List.getElem?_replicate, if_pos (by omega)]
          rfl
        · rw [ij_u_other _ _ _ _ ex, ht x hx]
          unfold cb_pv
          congr 1
          rw [List.replicate_succ', List.append_assoc]
          rw [List.getD_eq_getElem?_getD, List.getD_eq_getElem?_getD]
          by_cases el : n - 1 - x < i
          · rw [List.getElem?_append_left (by simpa using el), List.getElem?_append_left (by simpa using el)]
          · rw [List.getElem?_append_right (by simpa using Nat.not_lt.mp el), List.getElem?_append_right (by simpa using Nat.not_lt.mp el), List.length_replicate]
            obtain ⟨y, hy⟩ : ∃ y, n - 1 - x - i = y + 1 := ⟨n - 1 - x - i - 1, by omega⟩
            rw [hy]
            rfl
      obtain ⟨I', g1, g2, g3⟩ := ih (i + 1) (ij_u I 31 ds.length 0) (by omega) (fun x hx => hd x (List.mem_cons_of_mem _ hx)) ht2
      refine ⟨I', fun p y hp => (g1 p y hp).trans (lb_u_at (fun q => hp q.1)), ?_, fun v τ hg => ?_⟩
      · rw [hinc]
        revert g2
        cases cb_inc n ds with
        | none => intro _; trivial
        | some l =>
          intro g2
          refine ⟨?_, by show l.length + 1 = ds.length + 1; rw [g2.2.1], fun x hx => ?_⟩
          · have : List.replicate i 0 ++ 0 :: l = List.replicate (i + 1) 0 ++ l := by
              rw [List.replicate_succ', List.append_assoc]
              rfl
            show cb_tp n (List.replicate i 0 ++ 0 :: l) I'
            rw [this]
            exact g2.1
          · rcases List.mem_cons.mp hx with rfl | hx
            · omega
            · exact g2.2.2 x hx
      · rw [e4]
        refine rp_lists_136_8 I J (nI n) (nI ds.length) (nI_pos (by omega)) (vp_in_nI (by omega) (by decide)) (by rw [cl, ed, nI_sub1 hn1, show n - 1 = d by omega]) (vp_in_nI (by omega) (by decide)) ?_
        rw [cl]
        refine g3 v τ ?_
        rw [hinc] at hg
        revert hg
        cases cb_inc n ds with
        | none => exact fun q => q
        | some l => exact fun q => q
    · have hinc : cb_inc n (d :: ds) = some ((d + 1) :: ds) := by
        show (if d + 1 = n then _ else _) = _
        rw [if_neg e]
      refine ⟨ij_u I 31 ds.length (nI (d + 1)), fun p y hp => lb_u_at (fun q => hp q.1), ?_, fun v τ hg => ?_⟩
      · rw [hinc]
        refine ⟨fun x hx => ?_, rfl, fun x hx => ?_⟩
        · unfold cb_pv
          by_cases ex : x = ds.length
          · subst ex
            rw [ij_u_same, show n - 1 - ds.length = i by omega, List.getD_eq_getElem?_getD, List.getElem?_append_right (by simp), List.length_replicate, Nat.sub_self]
            rfl
          · rw [ij_u_other _ _ _ _ ex, ht x hx]
            unfold cb_pv
            congr 1
            rw [List.getD_eq_getElem?_getD, List.getD_eq_getElem?_getD]
            by_cases el : n - 1 - x < i
            · rw [List.getElem?_append_left (by simpa using el), List.getElem?_append_left (by simpa using el)]
            · rw [List.getElem?_append_right (by simpa using Nat.not_lt.mp el), List.getElem?_append_right (by simpa using Nat.not_lt.mp el), List.length_replicate]
              obtain ⟨y, hy⟩ : ∃ y, n - 1 - x - i = y + 1 := ⟨n - 1 - x - i - 1, by omega⟩
              rw [hy]
              rfl
        · rcases List.mem_cons.mp hx with rfl | hx
          · omega
          · exact hd x (List.mem_cons_of_mem _ hx)
      · rw [e4]
        have q := rp_lists_136_7 (C := C) (v := v) (τ := τ) I J (nI n) (nI ds.length) (nI_pos (by omega)) (vp_in_nI (by omega) (by decide)) (by rw [cl, ed, nI_sub1 hn1]; exact fun q => absurd ((nI_eq (by omega) (by omega)).mp q) (by omega)) (nI_pos (by omega)) (by decide) (vp_in_nI (by omega) (by decide)) (vp_in_nI (by omega) (by decide))
        rw [cl, ed, nI_1] at q
        refine q ?_
        rw [hinc] at hg
        exact hg
theorem rs_lrun (hn1 : 1 ≤ n) (hn6 : n ≤ 6) : ∀ (f : Nat) (w : List Nat) (acc : List (List Nat)) (I : Nat → Nat → Int32), w.length = n → (∀ d, d ∈ w → d < n) → cb_tp n w I → cb_tr n acc I → cb_end n f w = true → (acc ++ cb_run n f w).length ≤ 80 → ∃ I' : Nat → Nat → Int32, rk_go C 55 (32, [some (.ref 0), some (.int (nI n)), some (.int 1), none, none], [], (rk_R, I, J)) none (rk_R, I', J) ∧ cb_tr n (acc ++ cb_run n f w) I' ∧ cb_fl I I' := by
  intro f
  induction f with
  | zero => intro w acc I _ _ _ _ h; exact Bool.noConfusion (show false = true from h)
  | succ f ih =>
    intro w acc I hl hd ht hr he hle
    have hpv : ∀ x, x < n → cb_pv n w x < n := fun x hx => by
      unfold cb_pv
      rw [cb_getD _ _ (by omega)]
      exact hd _ (List.getElem_mem _)
    -- what is done behind the row
    have after : ∀ (acc2 : List (List Nat)) (I2 : Nat → Nat → Int32), cb_tp n w I2 → cb_tr n acc2 I2 → acc2 ++ (match cb_inc n w with | none => [] | some w' => cb_run n f w') = acc ++ cb_run n (f + 1) w → ∃ I' : Nat → Nat → Int32, rk_go C 55 (136, [some (.ref 0), some (.int (nI n)), none, none, some (.int (nI n - 1))], [], (rk_R, I2, J)) none (rk_R, I', J) ∧ cb_tr n (acc ++ cb_run n (f + 1) w) I' ∧ cb_fl I2 I' := by
      intro acc2 I2 ht2 hr2 hacc
      obtain ⟨I3, g1, g2, g3⟩ := rs_lnx (C := C) (J := J) hn1 hn6 w 0 I2 (by omega) hd ht2
      have e1 : nI n - 1 = nI w.length + (-1) := by rw [hl, nI_sub1 hn1]; have := nI_dec (n - 1); rw [show n - 1 + 1 = n by omega] at this; exact this.symm
      rw [e1]
      have hr3 : cb_tr n acc2 I3 := ⟨(g1 0 52 (by decide)).trans hr2.1, fun i hi x hx => (g1 29 _ (by decide)).trans (hr2.2 i hi x hx)⟩
      have fl : cb_fl I2 I3 := fun p k a1 a2 a3 => g1 p k a2
      have he' : (match cb_inc n w with | none => true | some w' => cb_end n f w') = true := he
      revert g2 g3 he' hacc
      cases cb_inc n w with
      | none =>
        intro hacc g2 g3 he'
        refine ⟨I3, g3 _ _ (rp_lists_32_0 I3 J (nI n) 0 rfl), ?_, fl⟩
        rw [← hacc, List.append_nil]
        exact hr3
      | some w' =>
        intro hacc g2 g3 he'
        obtain ⟨I', k1, k2, k3⟩ := ih w' acc2 I3 (g2.2.1.trans hl) g2.2.2 g2.1 hr3 he' (by rw [hacc]; exact hle)
        exact ⟨I', g3 _ _ k1, by rw [← hacc]; exact k2, cb_fl_trans fl k3⟩
    have go41 : ∀ τ, rk_go C 55 (41, [some (.ref 0), some (.int (nI n)), none, some (.int 1), some (.int (nI 0))], [], (rk_R, I, J)) none τ → rk_go C 55 (32, [some (.ref 0), some (.int (nI n)), some (.int 1), none, none], [], (rk_R, I, J)) none τ := fun τ hg => rp_lists_32_1 I J (nI n) 1 (by decide) hg
    by_cases hall : ∀ x, x < n → cb_pv n w (cb_pv n w x) = x
    · have hisT : cb_is n w = true := List.all_eq_true.mpr (fun x hx => beq_iff_eq.mpr (hall x (List.mem_range.mp hx)))
      have erun : cb_run n (f + 1) w = [w.reverse] ++ (match cb_inc n w with | none => [] | some w' => cb_run n f w') := by
        show (if cb_is n w then [w.reverse] else []) ++ _ = _
        rw [if_pos hisT]
        rfl
      have hk80 : acc.length < 80 := by
        rw [erun] at hle
        simp only [List.length_append, List.length_cons, List.length_nil] at hle
        omega
      obtain ⟨I2, a1, a2, a3, a4, a5⟩ := rs_lwr (C := C) (J := J) (n := n) hn6 hk80 n 0 I (by omega) hr.1
      have hr2 : cb_tr n (acc ++ [w.reverse]) I2 := by
        refine ⟨by rw [a4, List.length_append]; rfl, fun i hi x hx => ?_⟩
        rw [List.length_append] at hi
        have hi' : i < acc.length + 1 := hi
        by_cases ei : i = acc.length
        · subst ei
          rw [a2 x (Nat.zero_le x) hx, ht x hx]
          congr 1
          rw [List.getD_eq_getElem?_getD (l := acc ++ [w.reverse]), List.getElem?_append_right (Nat.le_refl _), Nat.sub_self]
          show cb_pv n w x = w.reverse.getD x 0
          unfold cb_pv
          rw [cb_getD _ _ (by omega), cb_getD _ _ (by rw [List.length_reverse]; omega), List.getElem_reverse]
          congr 1
          rw [hl]
        · rw [a3 _ (by omega), hr.2 i (by omega) x hx, List.getD_eq_getElem?_getD (l := acc ++ [w.reverse]), List.getElem?_append_left (by omega), ← List.getD_eq_getElem?_getD]
      obtain ⟨I', k1, k2, k3⟩ := after (acc ++ [w.reverse]) I2 (fun x hx => (a5 31 x (by decide) (by omega)).trans (ht x hx)) hr2 (by rw [erun, List.append_assoc])
      refine ⟨I', go41 _ (rs_lis hn6 hpv ht (fun _ => a1 _ _ k1) (fun ⟨x, hx, q⟩ => absurd (hall x hx) q) n 0 (by omega) (fun x hx => absurd hx (Nat.not_lt_zero x))), k2, cb_fl_trans (fun p k b1 b2 b3 => a5 p k b1 b3) k3⟩
    · have hisF : cb_is n w = false := by
        cases h : cb_is n w with
        | false => rfl
        | true => exact absurd (fun x hx => beq_iff_eq.mp (List.all_eq_true.mp h x (List.mem_range.mpr hx))) hall
      have erun : cb_run n (f + 1) w = (match cb_inc n w with | none => [] | some w' => cb_run n f w') := by
        show (if cb_is n w then [w.reverse] else []) ++ _ = _
        rw [hisF]
        rfl
      obtain ⟨I', k1, k2, k3⟩ := after acc I ht hr (by rw [erun])
      exact ⟨I', go41 _ (rs_lis hn6 hpv ht (fun q => absurd q hall) (fun _ => k1) n 0 (by omega) (fun x hx => absurd hx (Nat.not_lt_zero x))), k2, k3⟩
theorem rs_lzero (hn6 : n ≤ 6) : ∀ (r j : Nat) (I : Nat → Nat → Int32), j + r = n → (∀ x, x < j → I 31 x = 0) → ∃ I' : Nat → Nat → Int32, (∀ v τ, rk_go C 55 (32, [some (.ref 0), some (.int (nI n)), some (.int 1), none, none], [], (rk_R, I', J)) v τ → rk_go C 55 (12, [some (.ref 0), some (.int (nI n)), some (.int (nI j)), none, none], [], (rk_R, I, J)) v τ) ∧ (∀ x, x < n → I' 31 x = 0) ∧ ∀ p y, p ≠ 31 → I' p y = I p y := by
  intro r
  induction r with
  | zero =>
    intro j I hj h
    have : j = n := by omega
    subst this
    exact ⟨I, fun v τ hg => rp_lists_12_0 I J (nI j) (nI j) (nI_le (Nat.le_refl j) (by omega)) hg, h, fun _ _ _ => rfl⟩
  | succ r ih =>
    intro j I hj h
    obtain ⟨I', g1, g2, g3⟩ := ih (j + 1) (ij_u I 31 j 0) (by omega) (fun x hx => by
      by_cases e : x = j
      · subst e; exact ij_u_same _ _ _ _
      · rw [ij_u_other _ _ _ _ e]; exact h x (by omega))
    refine ⟨I', fun v τ hg => ?_, g2, fun p y hp => (g3 p y hp).trans (lb_u_at (fun e => hp e.1))⟩
    have q := rp_lists_12_1 (C := C) (v := v) (τ := τ) I J (nI n) (nI j) (nI_ge (by omega) (by omega)) (vp_in_nI (by omega) (by decide))
    rw [nI_clamp (by omega), nI_1] at q
    exact q (g1 v τ hg)
end CB1
/-- the rows, as the reference holds them -/
def cb_rl (n : Nat) (I : Nat → Nat → Int32) : Prop := I 0 53 = nI n ∧ I 0 52 = nI (cb_q n) ∧ ∀ i, i < cb_q n → ∀ x, x < n → I 29 (6 * i + x) = nI (cb_r n i x)
theorem rs_lists {d n : Nat} {J : Nat → Nat → Int64} (hn1 : 1 ≤ n) (hn6 : n ≤ 6) (I : Nat → Nat → Int32) : ∃ I' : Nat → Nat → Int32, rk_call (d + 1) 55 [.ref 0, .int (nI n)] (rk_R, I, J) none (rk_R, I', J) ∧ cb_rl n I' ∧ ∀ p k, p ≠ 29 → p ≠ 31 → ¬ (p = 0 ∧ (k = 52 ∨ k = 53)) → I' p k = I p k := by
  obtain ⟨f, hf1, hf2⟩ := cb_runs hn1 hn6
  obtain ⟨Iz, z1, z2, z3⟩ := rs_lzero (C := rk_call d) (J := J) hn6 n 0 (ij_u (ij_u I 0 53 (nI n)) 0 52 0) (by omega) (fun x hx => absurd hx (Nat.not_lt_zero x))
  have q76 := cb_qs n (by omega)
  obtain ⟨I', k1, k2, k3⟩ := rs_lrun (C := rk_call d) (J := J) hn1 hn6 f (List.replicate n 0) [] Iz List.length_replicate (fun e he => by rw [(List.mem_replicate.mp he).2]; omega) (fun x hx => by
    rw [z2 x hx]
    unfold cb_pv
    rw [cb_getD _ _ (by rw [List.length_replicate]; omega), List.getElem_replicate]
    rfl) ⟨(z3 0 52 (by decide)).trans rfl, fun i hi => absurd hi (Nat.not_lt_zero i)⟩ hf2 (by rw [hf1]; show cb_q n ≤ 80; omega)
  rw [hf1] at k2
  refine ⟨I', ij_cr_of (Nat.le_of_ble_eq_true rfl) (rp_lists_0_0 I J (nI n) (z1 _ _ k1)), ⟨?_, k2.1, k2.2⟩, fun p k a1 a2 a3 => ?_⟩
  · rw [k3 0 53 (by decide) (by decide) (by omega), z3 0 53 (by decide)]
    rfl
  · rw [k3 p k a1 a2 (by omega), z3 p k a2, lb_u_at (by omega), lb_u_at (by omega)]
