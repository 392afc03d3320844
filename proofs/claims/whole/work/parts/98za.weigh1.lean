/-! ===== closed boards: the class weighs: together, smooth, as met ===== -/
theorem cb_shl10 : ∀ c : Fin 10, (1 : Int32) <<< (nI c.1 &&& 31) = nI (2 ^ c.1) := by decide +kernel
theorem cb_ls_all {n i j c : Nat} (hn1 : 1 ≤ n) (hn : n < 7) (hi : i < cb_q n) (hj : j < cb_q n) : cb_ls n i j n = 2 ^ c ↔ ∀ x, x < n → cb_lap n i j x = c := by
  have bit : ∀ k t, (cb_ls n i j k).testBit t = true ↔ ∃ x, x < k ∧ cb_lap n i j x = t := by
    intro k t
    induction k with
    | zero =>
      show (0 : Nat).testBit t = true ↔ _
      rw [Nat.zero_testBit]
      exact ⟨fun q => absurd q (by decide), fun ⟨x, hx, _⟩ => absurd hx (Nat.not_lt_zero x)⟩
    | succ k ih =>
      show (cb_ls n i j k ||| 2 ^ cb_lap n i j k).testBit t = true ↔ _
      rw [Nat.testBit_or, Bool.or_eq_true, ih, Nat.testBit_two_pow, decide_eq_true_iff]
      constructor
      · rintro (⟨x, hx, e⟩ | e)
        · exact ⟨x, by omega, e⟩
        · exact ⟨k, Nat.lt_succ_self k, e⟩
      · rintro ⟨x, hx, e⟩
        by_cases ex : x = k
        · right; rw [← ex]; exact e
        · left; exact ⟨x, by omega, e⟩
  constructor
  · intro e x hx
    have := (bit n (cb_lap n i j x)).mpr ⟨x, hx, rfl⟩
    rw [e, Nat.testBit_two_pow, decide_eq_true_iff] at this
    exact this.symm
  · intro h
    apply Nat.eq_of_testBit_eq
    intro t
    apply Bool.eq_iff_iff.mpr
    rw [bit, Nat.testBit_two_pow, decide_eq_true_iff]
    constructor
    · rintro ⟨x, hx, e⟩
      rw [← e]; exact (h x hx).symm
    · intro e
      exact ⟨0, by omega, by rw [h 0 (by omega)]; exact e⟩
section CW1
variable {X : ij_R} {d n p : Nat} {b : Bool} {J : Nat → Nat → Int64} {cs : Nat → Nat} {a : List Nat} {I : Nat → Nat → Int32}
theorem lx_hangs (hn1 : 1 ≤ n) (hn : n < 7) (hp : p ≤ 8) (hok : cb_ok n p a) (hx : cb_xs n p cs I) (hL : cb_L n a p I) : lk_cx1 X (d + 3) 16 [.ref 28] (xk_R b, I, J) (some (.int (if cb_B (cb_cn n p a) then 1 else 0))) (xk_R b, I, J) := by
  have p64 := cb_pow64 hn
  have p1 : 1 ≤ 2 ^ n := Nat.one_le_two_pow
  have g0 := lx_groupOf (X := X) (d := d) (b := b) (J := J) (I := I) (k := p) (t := 0) hp (by decide)
  have ew : (1 : Int32) <<< (I 28 7 &&& 31) - 1 = nI (2 ^ n - 1) := by
    rw [hx.2, cb_shl6 ⟨n, hn⟩]
    exact nI_sub1 p1
  have q := xp_X1_hangsTogether_0_0 (C := ik_cr xk_P xk_M xk_Y xk_K X (d + 2)) (v := some (.int (if cb_B (cb_cn n p a) then 1 else 0))) (τ := (xk_R b, I, J)) (b := b) (b' := b) (I' := I) (J' := J) I J (I 30 (6 * p + 0))
  rw [hx.1.2.1] at q
  refine ik_cr_of (Nat.le_of_ble_eq_true rfl) (q g0 ?_)
  have iff : I 30 (6 * p + 0) = nI (2 ^ n - 1) ↔ cb_cn n p a := by
    rcases hL with h | ⟨g, h1, h2⟩
    · exact ⟨fun _ => h.2, fun _ => h.1⟩
    · have l0 := (h2.1 0 (by omega)).1
      rw [h1 0 (by omega), nI_eq (by omega) (by omega), cb_full l0]
      exact ⟨fun q u hu => h2.2.2.2 0 u (by omega) hu (q u hu), fun q u hu => cb_Q_re hn hok h2 (by omega) (q u hu)⟩
  by_cases e : cb_cn n p a
  · rw [cb_B_t e, if_pos rfl]
    exact xp_X1_hangsTogether_12_1 I J _ (by rw [ew]; exact iff.mpr e)
  · rw [cb_B_f e]
    exact xp_X1_hangsTogether_12_0 I J _ (by rw [ew]; exact fun q => e (iff.mp q))
theorem cb_alone {i : Nat} : cb_al (cb_r n i) n = 0 ↔ ∀ x, x < n → cb_r n i x ≠ x := by
  unfold cb_al
  by_cases e : (List.range n).any (fun x => cb_r n i x == x) = true
  · rw [if_pos e]
    obtain ⟨x, hx, h⟩ := List.any_eq_true.mp e
    exact ⟨fun q => absurd q (by decide), fun q => absurd (beq_iff_eq.mp h) (q x (List.mem_range.mp hx))⟩
  · rw [if_neg e]
    exact ⟨fun _ x hx q => e (List.any_eq_true.mpr ⟨x, List.mem_range.mpr hx, beq_iff_eq.mpr q⟩), fun _ => rfl⟩
theorem lx_leaves {i : Nat} (hn : n < 7) (h : cb_xl n I) (hi : i < cb_q n) : lk_cx1 X (d + 1) 71 [.ref 23, .int (nI i)] (xk_R b, I, J) (some (.int (if cb_al (cb_r n i) n = 0 then 0 else 1))) (xk_R b, I, J) := by
  have q76 := cb_qs n hn
  have cl : (nI i).toNatClampNeg = i := nI_clamp (by omega)
  refine ik_cr_of (Nat.le_of_ble_eq_true rfl) ?_
  by_cases e : cb_al (cb_r n i) n = 0
  · rw [if_pos e]
    exact xp_X4_leavesAlone_0_2 I J _ (nI_pos (by omega)) (by decide) (nI_ge (b := 76) (by omega) (by decide)) (vp_in_nI (by omega) (by decide)) (by rw [cl, h.2.1 i hi]; exact e)
  · rw [if_neg e]
    exact xp_X4_leavesAlone_0_3 I J _ (nI_pos (by omega)) (by decide) (nI_ge (b := 76) (by omega) (by decide)) (vp_in_nI (by omega) (by decide)) (by rw [cl, h.2.1 i hi]; exact e)
theorem lx_isSmooth (hn1 : 1 ≤ n) (hn : n < 7) (hp3 : 3 ≤ p) (hp : p ≤ 8) (hcs : ∀ j, j < p → cs j < 10 ∧ cs j ≠ 1) (hal : a.length = p) (hok : cb_ok n p a) (hx : cb_xs n p cs I) (hc : cb_ch a I) : lk_cx1 X (d + 3) 17 [.ref 28] (xk_R b, I, J) (some (.int (if cb_B (cb_sm n p cs a) then 1 else 0))) (xk_R b, I, J) := by
  have row : ∀ s, s < p → lk_cx1 X (d + 2) 11 [.ref 28, .int (nI s)] (xk_R b, I, J) (some (.int (nI (a.getD s 0)))) (xk_R b, I, J) := fun s hs => lx_rowOf (by omega) hc (by omega)
  have loop2 : (∀ s, s < p → ∀ x, x < n → cb_b n a s x ≠ x) → ∀ (r s : Nat), s + r = p → (∀ s', s' < s → cs s' ≠ 0 → ∀ x, x < n → cb_lap n (a.getD s' 0) (a.getD ((s' + 1) % p) 0) x = cs s') → xk_go (ik_cr xk_P xk_M xk_Y xk_K X (d + 2)) 17 (38, [some (.ref 28), some (.int (nI s)), none, none], [], (xk_R b, I, J)) (some (.int (if cb_B (cb_sm n p cs a) then 1 else 0))) (xk_R b, I, J) := by
    intro hno r
    induction r with
    | zero =>
      intro s hs h
      have : s = p := by omega
      subst this
      rw [cb_B_t (show cb_sm n s cs a from fun s' hs' x hx => ⟨hno s' hs' x hx, fun q => h s' hs' q x hx⟩), if_pos rfl]
      exact xp_X1_isSmooth_38_0 I J _ (by rw [hx.1.2.1]; exact nI_le (Nat.le_refl s) (by omega))
    | succ r ih =>
      intro s hs h
      have hsp : (s + 1) % p < p := Nat.mod_lt _ (by omega)
      have hc10 := (hcs s (by omega)).1
      refine xp_X1_isSmooth_38_1 I J _ _ (by rw [hx.1.2.1]; exact nI_ge (by omega) (by omega)) (lx_cornerB (d := d + 1) hp hx.1.2.2 (by omega)) ?_
      have md := lx_modulo (X := X) (d := d) (b := b) (I := I) (J := J) (nI s + 1) (I 6 8)
      rw [hx.1.2.1, show (1 : Int32) = nI 1 from rfl, lf_fm_add (x := s) (y := 1) (by omega) (by decide) (by omega) hp] at md
      have q := xp_X1_isSmooth_57_0 (C := ik_cr xk_P xk_M xk_Y xk_K X (d + 2)) (v := some (.int (if cb_B (cb_sm n p cs a) then 1 else 0))) (τ := (xk_R b, I, J)) (b := b) (b' := b) (I' := I) (J' := J) I J (nI s) (nI (cs s)) (nI ((s + 1) % p))
      rw [hx.1.2.1] at q
      refine q md ?_
      by_cases e0 : cs s = 0
      · refine xp_X1_isSmooth_71_0 I J _ _ _ (by rw [e0]; rfl) ?_
        rw [nI_1]
        exact ih (s + 1) (by omega) (fun s' hs' q x hx => by
          by_cases e : s' = s
          · rw [e] at q; exact absurd e0 q
          · exact h s' (by omega) q x hx)
      · refine xp_X1_isSmooth_71_1 I J _ _ _ _ (nI_ne0 (by omega) (by omega)) (row s (by omega)) (xp_X1_isSmooth_85_0 I J _ _ _ _ _ (row _ hsp) (xp_X1_isSmooth_90_0 I J _ _ _ _ _ (lx_lapsOf (d := d + 1) hn hx.1.1 (hok s (by omega)) (hok _ hsp)) ?_))
        have e2 := cb_shl10 ⟨cs s, hc10⟩
        have hls := cb_ls_lt hn (hok s (by omega)) (hok _ hsp) n (Nat.le_refl n)
        have hpw : 2 ^ cs s ≤ 2 ^ 9 := Nat.pow_le_pow_right (by decide) (by omega)
        have hiff : nI (cb_ls n (a.getD s 0) (a.getD ((s + 1) % p) 0) n) = (1 : Int32) <<< (nI (cs s) &&& 31) ↔ ∀ x, x < n → cb_lap n (a.getD s 0) (a.getD ((s + 1) % p) 0) x = cs s := by
          rw [e2, nI_eq (by omega) (show 2 ^ cs s < 2 ^ 31 by omega)]
          exact cb_ls_all hn1 hn (hok s (by omega)) (hok _ hsp)
        by_cases e : ∀ x, x < n → cb_lap n (a.getD s 0) (a.getD ((s + 1) % p) 0) x = cs s
        · refine xp_X1_isSmooth_93_0 I J _ _ _ (hiff.mpr e) ?_
          rw [nI_1]
          exact ih (s + 1) (by omega) (fun s' hs' q x hx => by
            by_cases e' : s' = s
            · rw [e']; exact e x hx
            · exact h s' (by omega) q x hx)
        · rw [cb_B_f (fun q => e (fun x hx => (q s (by omega) x hx).2 e0))]
          exact xp_X1_isSmooth_93_1 I J _ _ _ (fun q => e (hiff.mp q))
  have loop1 : ∀ (r s : Nat), s + r = p → (∀ s', s' < s → ∀ x, x < n → cb_b n a s' x ≠ x) → xk_go (ik_cr xk_P xk_M xk_Y xk_K X (d + 2)) 17 (2, [some (.ref 28), some (.int (nI s)), none, none], [], (xk_R b, I, J)) (some (.int (if cb_B (cb_sm n p cs a) then 1 else 0))) (xk_R b, I, J) := by
    intro r
    induction r with
    | zero =>
      intro s hs h
      have : s = p := by omega
      subst this
      exact xp_X1_isSmooth_2_0 I J _ (by rw [hx.1.2.1]; exact nI_le (Nat.le_refl s) (by omega)) (loop2 h s 0 (Nat.zero_add s) (fun s' hs' => absurd hs' (Nat.not_lt_zero s')))
    | succ r ih =>
      intro s hs h
      refine xp_X1_isSmooth_2_1 I J _ _ (by rw [hx.1.2.1]; exact nI_ge (by omega) (by omega)) (row s (by omega)) (xp_X1_isSmooth_22_0 I J _ _ _ (lx_leaves (d := d + 1) hn hx.1.1 (hok s (by omega))) ?_)
      by_cases e : cb_al (cb_r n (a.getD s 0)) n = 0
      · rw [if_pos e]
        refine xp_X1_isSmooth_25_0 I J _ _ rfl ?_
        rw [nI_1]
        exact ih (s + 1) (by omega) (fun s' hs' x hx => by
          by_cases e' : s' = s
          · rw [e']; exact cb_alone.mp e x hx
          · exact h s' (by omega) x hx)
      · rw [if_neg e, cb_B_f (fun q => e (cb_alone.mpr (fun x hx => (q s (by omega) x hx).1)))]
        exact xp_X1_isSmooth_25_1 I J _ _ (by decide)
  exact ik_cr_of (Nat.le_of_ble_eq_true rfl) (xp_X1_isSmooth_0_0 I J (loop1 p 0 (Nat.zero_add p) (fun s' hs' => absurd hs' (Nat.not_lt_zero s'))))
/-! numbered as met -/
/-- from where and by which side tiles below m are met -/
def cb_mt (n p : Nat) (a : List Nat) (m : Nat) (I : Nat → Nat → Int32) : Prop := ∀ t, 1 ≤ t → t < m → ∃ u w, u < t ∧ w < p ∧ I 31 t = nI u ∧ I 32 t = nI w ∧ cb_b n a w u = t
theorem cb_bf_pre : ∀ (F k : Nat) (o : List Nat), ∃ m, cb_bf n p a F k o = o ++ m := by
  intro F
  induction F with
  | zero => intro k o; exact ⟨[], (List.append_nil _).symm⟩
  | succ F ih =>
    intro k o
    by_cases ek : k < o.length
    · obtain ⟨m3, h3⟩ := cb_in_pre (n := n) (a := a) (t := o.getD k 0) (List.range p) o
      obtain ⟨m4, h4⟩ := ih (k + 1) (cb_in n a (o.getD k 0) (List.range p) o)
      refine ⟨m3 ++ m4, ?_⟩
      show (if k < o.length then _ else o) = _
      rw [if_pos ek, h4, h3, List.append_assoc]
    · refine ⟨[], ?_⟩
      show (if k < o.length then _ else o) = _
      rw [if_neg ek, List.append_nil]
theorem cb_rg_mem {m y : Nat} : y ∈ List.range m ↔ y < m := List.mem_range
theorem lx_met19 {f F : Nat} (hn : n < 7) (hp : p ≤ 8) (hal : a.length = p) (hok : cb_ok n p a) (hfn : f < n) {v : Option Value} {τ : ij_S} : ∀ (r s m : Nat) (I : Nat → Nat → Int32), s + r = p → cb_xs n p cs I → cb_ch a I → cb_mt n p a m I → f < m → m ≤ n → cb_od n p a 0 = cb_bf n p a F (f + 1) (cb_in n a f (List.range' s r) (List.range m)) →
    (∃ I' m', (∀ v τ, xk_go (ik_cr xk_P xk_M xk_Y xk_K X (d + 2)) 18 (4, [some (.ref 28), some (.int (nI m')), some (.int (nI (f + 1))), none, none], [], (xk_R b, I', J)) v τ → xk_go (ik_cr xk_P xk_M xk_Y xk_K X (d + 2)) 18 (19, [some (.ref 28), some (.int (nI m)), some (.int (nI f)), some (.int (nI s)), none], [], (xk_R b, I, J)) v τ) ∧ m ≤ m' ∧ m' ≤ n ∧ cb_mt n p a m' I' ∧ cb_od n p a 0 = cb_bf n p a F (f + 1) (List.range m') ∧ ∀ q, q ≠ 31 → q ≠ 32 → I' q = I q) ∨
    (∃ I', xk_go (ik_cr xk_P xk_M xk_Y xk_K X (d + 2)) 18 (19, [some (.ref 28), some (.int (nI m)), some (.int (nI f)), some (.int (nI s)), none], [], (xk_R b, I, J)) (some (.int 0)) (xk_R b, I', J) ∧ cb_od n p a 0 ≠ List.range n ∧ ∀ q, q ≠ 31 → q ≠ 32 → I' q = I q) := by
  intro r
  induction r with
  | zero =>
    intro s m I hs hx hc hm hf hmn hod
    have : s = p := by omega
    subst this
    refine Or.inl ⟨I, m, fun v τ hg => ?_, Nat.le_refl m, hmn, hm, hod, fun _ _ _ => rfl⟩
    rw [← nI_1] at hg
    exact xp_X1_isNumberedAsMet_19_0 I J _ _ _ (by rw [hx.1.2.1]; exact nI_le (Nat.le_refl s) (by omega)) hg
  | succ r ih =>
    intro s m I hs hx hc hm hf hmn hod
    have hb := cb_b_lt hn hok (show s < p by omega) hfn
    have g19 : ∀ v τ, xk_go (ik_cr xk_P xk_M xk_Y xk_K X (d + 2)) 18 (36, [some (.ref 28), some (.int (nI m)), some (.int (nI f)), some (.int (nI s)), none], [.int (nI (cb_b n a s f))], (xk_R b, I, J)) v τ → xk_go (ik_cr xk_P xk_M xk_Y xk_K X (d + 2)) 18 (19, [some (.ref 28), some (.int (nI m)), some (.int (nI f)), some (.int (nI s)), none], [], (xk_R b, I, J)) v τ := fun v τ hg => xp_X1_isNumberedAsMet_19_1 I J _ _ _ _ (by rw [hx.1.2.1]; exact nI_ge (by omega) (by omega)) (lx_across hn (by omega) hx.1.1.1 hc (by omega) (hok s (by omega)) hfn) hg
    rw [List.range'_succ] at hod
    by_cases e1 : cb_b n a s f < m
    · have ein : cb_in n a f (s :: List.range' (s + 1) r) (List.range m) = cb_in n a f (List.range' (s + 1) r) (List.range m) := by
        show cb_in n a f _ (if _ then _ else _) = _
        rw [if_pos (cb_rg_mem.mpr e1)]
      rw [ein] at hod
      have step : ∀ v τ, xk_go (ik_cr xk_P xk_M xk_Y xk_K X (d + 2)) 18 (19, [some (.ref 28), some (.int (nI m)), some (.int (nI f)), some (.int (nI (s + 1))), none], [], (xk_R b, I, J)) v τ → xk_go (ik_cr xk_P xk_M xk_Y xk_K X (d + 2)) 18 (19, [some (.ref 28), some (.int (nI m)), some (.int (nI f)), some (.int (nI s)), none], [], (xk_R b, I, J)) v τ := fun v τ hg => by
        rw [← nI_1] at hg
        exact g19 v τ (xp_X1_isNumberedAsMet_36_0 I J _ _ _ _ (nI_le (by omega) (by omega)) (fun q => absurd ((nI_eq (by omega) (by omega)).mp q) (by omega)) hg)
      rcases ih (s + 1) m I (by omega) hx hc hm hf hmn hod with ⟨I', m', z1, z2⟩ | ⟨I', z1, z2⟩
      · exact Or.inl ⟨I', m', fun v τ hg => step v τ (z1 v τ hg), z2⟩
      · exact Or.inr ⟨I', step _ _ z1, z2⟩
    · have ein : cb_in n a f (s :: List.range' (s + 1) r) (List.range m) = cb_in n a f (List.range' (s + 1) r) (List.range m ++ [cb_b n a s f]) := by
        show cb_in n a f _ (if _ then _ else _) = _
        rw [if_neg (fun q => e1 (cb_rg_mem.mp q))]
      rw [ein] at hod
      by_cases e2 : cb_b n a s f = m
      · rw [e2, ← List.range_succ] at hod
        have hx1 : cb_xs n p cs (ij_u (ij_u I 31 m (nI f)) 32 m (nI s)) := cb_xs_fX (s := 0) ⟨fun q k _ _ a3 a4 _ _ _ _ _ => (lb_u_at (fun z => a4 z.1)).trans (lb_u_at (fun z => a3 z.1)), fun k hk => absurd hk (Nat.not_lt_zero k), fun y _ => (congrFun (ij_u_ne (by decide)) y).trans (congrFun (ij_u_ne (by decide)) y)⟩ hx
        have hm1 : cb_mt n p a (m + 1) (ij_u (ij_u I 31 m (nI f)) 32 m (nI s)) := fun t h1 h2 => by
          by_cases et : t = m
          · subst et
            exact ⟨f, s, hf, by omega, (congrFun (ij_u_ne (by decide)) t).trans (ij_u_same _ _ _ _), ij_u_same _ _ _ _, e2⟩
          · obtain ⟨u, w, q1, q2, q3, q4, q5⟩ := hm t h1 (by omega)
            exact ⟨u, w, q1, q2, (congrFun (ij_u_ne (by decide)) t).trans ((ij_u_other _ _ _ _ et).trans q3), (ij_u_other _ _ _ _ et).trans ((congrFun (ij_u_ne (by decide)) t).trans q4), q5⟩
        have step : ∀ v τ, xk_go (ik_cr xk_P xk_M xk_Y xk_K X (d + 2)) 18 (19, [some (.ref 28), some (.int (nI (m + 1))), some (.int (nI f)), some (.int (nI (s + 1))), none], [], (xk_R b, ij_u (ij_u I 31 m (nI f)) 32 m (nI s), J)) v τ → xk_go (ik_cr xk_P xk_M xk_Y xk_K X (d + 2)) 18 (19, [some (.ref 28), some (.int (nI m)), some (.int (nI f)), some (.int (nI s)), none], [], (xk_R b, I, J)) v τ := fun v τ hg => by
          have q := xp_X1_isNumberedAsMet_36_3 (C := ik_cr xk_P xk_M xk_Y xk_K X (d + 2)) (v := v) (τ := τ) (b := b) I J (nI m) (nI f) (nI s) (nI (cb_b n a s f)) (nI_le (by omega) (by omega)) (by rw [e2]) (by decide) (nI_ge (b := 6) (by omega) (by decide)) (by decide) (nI_ge (b := 6) (by omega) (by decide)) (vp_in_nI (by omega) (by decide)) (vp_in_nI (by omega) (by decide))
          rw [nI_clamp (by omega), nI_1, nI_1] at q
          exact g19 v τ (q hg)
        rcases ih (s + 1) (m + 1) _ (by omega) hx1 (fun k hk => (congrFun (ij_u_ne (by decide)) k).trans ((congrFun (ij_u_ne (by decide)) k).trans (hc k hk))) hm1 (by omega) (by omega) hod with ⟨I', m', z1, z2, z3, z4, z5, z6⟩ | ⟨I', z1, z2, z3⟩
        · exact Or.inl ⟨I', m', fun v τ hg => step v τ (z1 v τ hg), by omega, z3, z4, z5, fun q a1 a2 => (z6 q a1 a2).trans ((ij_u_ne a2).trans (ij_u_ne a1))⟩
        · exact Or.inr ⟨I', step _ _ z1, z2, fun q a1 a2 => (z3 q a1 a2).trans ((ij_u_ne a2).trans (ij_u_ne a1))⟩
      · refine Or.inr ⟨I, g19 _ _ (xp_X1_isNumberedAsMet_36_4 I J _ _ _ _ (nI_ge (by omega) (by omega))), fun q => ?_, fun _ _ _ => rfl⟩
        -- place m is another tile's
        obtain ⟨m1, h1⟩ := cb_in_pre (n := n) (a := a) (t := f) (List.range' (s + 1) r) (List.range m ++ [cb_b n a s f])
        obtain ⟨m2, h2⟩ := cb_bf_pre (n := n) (p := p) (a := a) F (f + 1) (cb_in n a f (List.range' (s + 1) r) (List.range m ++ [cb_b n a s f]))
        rw [hod, h2, h1] at q
        have hg := congrArg (fun l => l.getD m 0) q
        have hmn' : m < n := by omega
        have e3 : (List.range n).getD m 0 = m := by rw [cb_getD _ _ (by rw [List.length_range]; exact hmn'), List.getElem_range]
        have e4 : (List.range m ++ [cb_b n a s f] ++ m1 ++ m2).getD m 0 = cb_b n a s f := by
          rw [List.append_assoc, List.append_assoc, List.getD_eq_getElem?_getD, List.getElem?_append_right (by rw [List.length_range]; exact Nat.le_refl m), List.length_range, Nat.sub_self]
          rfl
        have hg' : (List.range m ++ [cb_b n a s f] ++ m1 ++ m2).getD m 0 = (List.range n).getD m 0 := hg
        rw [e3, e4] at hg'
        exact e2 hg'
theorem lx_met4 (hn1 : 1 ≤ n) (hn : n < 7) (hp : p ≤ 8) (hal : a.length = p) (hok : cb_ok n p a) : ∀ (F f m : Nat) (I : Nat → Nat → Int32), f + (F + 1) = n + 1 → cb_xs n p cs I → cb_ch a I → cb_mt n p a m I → f ≤ m → 1 ≤ m → m ≤ n → cb_od n p a 0 = cb_bf n p a (F + 1) f (List.range m) → ∃ I', xk_go (ik_cr xk_P xk_M xk_Y xk_K X (d + 2)) 18 (4, [some (.ref 28), some (.int (nI m)), some (.int (nI f)), none, none], [], (xk_R b, I, J)) (some (.int (if cb_od n p a 0 = List.range n then 1 else 0))) (xk_R b, I', J) ∧ (cb_od n p a 0 = List.range n → cb_mt n p a n I') ∧ ∀ q, q ≠ 31 → q ≠ 32 → I' q = I q := by
  intro F
  induction F with
  | zero =>
    intro f m I hF hx hc hm hfm h1 hmn hod
    have ef : f = n := by omega
    have em : m = n := by omega
    subst em
    have e : cb_od m p a 0 = List.range m := by
      rw [hod]
      show (if f < (List.range m).length then _ else _) = _
      rw [if_neg (by rw [List.length_range]; omega)]
    rw [if_pos e]
    exact ⟨I, xp_X1_isNumberedAsMet_4_1 I J _ _ (by rw [ef]; exact nI_le (Nat.le_refl m) (by omega)) hx.2.symm, fun _ => hm, fun _ _ _ => rfl⟩
  | succ F ih =>
    intro f m I hF hx hc hm hfm h1 hmn hod
    by_cases e1 : m ≤ f
    · have e : cb_od n p a 0 = List.range m := by
        rw [hod]
        show (if f < (List.range m).length then _ else _) = _
        rw [if_neg (by rw [List.length_range]; omega)]
      by_cases em : m = n
      · subst em
        rw [if_pos e]
        exact ⟨I, xp_X1_isNumberedAsMet_4_1 I J _ _ (nI_le e1 (by omega)) hx.2.symm, fun _ => hm, fun _ _ _ => rfl⟩
      · have ne : cb_od n p a 0 ≠ List.range n := fun q => em (by
          have := congrArg List.length (e.symm.trans q)
          rw [List.length_range, List.length_range] at this
          exact this)
        rw [if_neg ne]
        exact ⟨I, xp_X1_isNumberedAsMet_4_0 I J _ _ (nI_le e1 (by omega)) (by rw [hx.2]; exact fun q => em ((nI_eq (by omega) (by omega)).mp q)), fun q => absurd q ne, fun _ _ _ => rfl⟩
    · by_cases em : m = n
      · subst em
        have e : cb_od m p a 0 = List.range m := by
          obtain ⟨m2, h2⟩ := cb_bf_pre (n := m) (p := p) (a := a) (F + 1 + 1) f (List.range m)
          rw [hod, h2]
          have hg := cb_g_le (cb_od_all hn hok (show 0 < m by omega)).1
          rw [hod, h2, List.length_append, List.length_range] at hg
          have : m2 = [] := List.length_eq_zero_iff.mp (by omega)
          rw [this, List.append_nil]
        rw [if_pos e]
        exact ⟨I, xp_X1_isNumberedAsMet_4_3 I J _ _ (nI_ge (by omega) (by omega)) (by rw [hx.2]; exact nI_le (Nat.le_refl m) (by omega)) hx.2.symm, fun _ => hm, fun _ _ _ => rfl⟩
      · have hod2 : cb_od n p a 0 = cb_bf n p a (F + 1) (f + 1) (cb_in n a f (List.range' 0 p) (List.range m)) := by
          rw [hod]
          show (if f < (List.range m).length then _ else _) = _
          rw [if_pos (by rw [List.length_range]; omega), ← List.range_eq_range', cb_getD _ _ (by rw [List.length_range]; omega), List.getElem_range]
        have st : ∀ v τ, xk_go (ik_cr xk_P xk_M xk_Y xk_K X (d + 2)) 18 (19, [some (.ref 28), some (.int (nI m)), some (.int (nI f)), some (.int (nI 0)), none], [], (xk_R b, I, J)) v τ → xk_go (ik_cr xk_P xk_M xk_Y xk_K X (d + 2)) 18 (4, [some (.ref 28), some (.int (nI m)), some (.int (nI f)), none, none], [], (xk_R b, I, J)) v τ := fun v τ hg => xp_X1_isNumberedAsMet_4_4 I J _ _ (nI_ge (by omega) (by omega)) (by rw [hx.2]; exact nI_ge (by omega) (by omega)) hg
        rcases lx_met19 (X := X) (d := d) (b := b) (J := J) (F := F + 1) (f := f) (v := none) (τ := (xk_R b, I, J)) hn hp hal hok (by omega) p 0 m I (Nat.zero_add p) hx hc hm (by omega) hmn hod2 with ⟨I1, m', z1, z2, z3, z4, z5, z6⟩ | ⟨I1, z1, z2, z3⟩
        · have hx1 : cb_xs n p cs I1 := cb_xs_fX (s := 0) ⟨fun q k _ _ a3 a4 _ _ _ _ _ => congrFun (z6 q a3 a4) k, fun k hk => absurd hk (Nat.not_lt_zero k), fun y _ => congrFun (z6 30 (by decide) (by decide)) y⟩ hx
          obtain ⟨I', k1, k2, k3⟩ := ih (f + 1) m' I1 (by omega) hx1 (by unfold cb_ch; rw [z6 29 (by decide) (by decide)]; exact hc) z4 (by omega) (by omega) z3 z5
          exact ⟨I', st _ _ (z1 _ _ k1), k2, fun q a1 a2 => (k3 q a1 a2).trans (z6 q a1 a2)⟩
        · rw [if_neg z2]
          exact ⟨I1, st _ _ z1, fun q => absurd q z2, z3⟩
theorem lx_met (hn1 : 1 ≤ n) (hn : n < 7) (hp : p ≤ 8) (hal : a.length = p) (hok : cb_ok n p a) (hx : cb_xs n p cs I) (hc : cb_ch a I) : ∃ I', lk_cx1 X (d + 3) 18 [.ref 28] (xk_R b, I, J) (some (.int (if cb_od n p a 0 = List.range n then 1 else 0))) (xk_R b, I', J) ∧ (cb_od n p a 0 = List.range n → cb_mt n p a n I') ∧ ∀ q, q ≠ 31 → q ≠ 32 → I' q = I q := by
  obtain ⟨I', k1, k2, k3⟩ := lx_met4 (X := X) (d := d) (b := b) (J := J) (cs := cs) hn1 hn hp hal hok n 0 1 I (by omega) hx hc (fun t h1 h2 => by omega) (by omega) (Nat.le_refl 1) hn1 rfl
  exact ⟨I', ik_cr_of (Nat.le_of_ble_eq_true rfl) (xp_X1_isNumberedAsMet_0_0 I J k1), k2, k3⟩
/-- it is so numbered just if numbering anew changes nothing -/
theorem cb_met_iff (hn : n < 7) (hal : a.length = p) (hok : cb_ok n p a) (hcn : cb_cn n p a) (h0 : 0 < n) : cb_od n p a 0 = List.range n ↔ cb_R n p a 0 = a := by
  obtain ⟨o1, o2, o3⟩ := cb_o_all hn hok hcn h0
  have hall := cb_R_all hn hok hcn h0
  constructor
  · intro e
    refine cb_b_inj hn cb_R_len hal hall.1 hok (fun s k hs hk => (hall.2 s k hs hk).trans ?_)
    have hg : ∀ j, j < n → (cb_od n p a 0).getD j 0 = j := fun j hj => by rw [e, cb_getD _ _ (by rw [List.length_range]; exact hj), List.getElem_range]
    show (cb_od n p a 0).idxOf (cb_b n a s ((cb_od n p a 0).getD k 0)) = cb_b n a s k
    rw [hg k hk]
    have hb := cb_b_lt hn hok hs hk
    have := (o1 _ hb).2
    rw [hg _ hb] at this
    exact this
  · intro e
    have hm := cb_R_hm hn hok hcn h0
    rw [e] at hm
    have h1 := cb_od_map hn hok hm h0
    rw [o3] at h1
    have hl := cb_con_full hn hok hcn h0
    apply List.ext_getElem
    · rw [hl, List.length_range]
    · intro k q1 q2
      rw [List.getElem_range]
      have hk : k < n := by omega
      have h3 := congrArg (fun l => l.getD k 0) h1
      have h4 : (cb_od n p a 0).getD k 0 = ((cb_od n p a 0).map (fun k => (cb_od n p a 0).getD k 0)).getD k 0 := h3
      rw [cb_getD ((cb_od n p a 0).map _) 0 (by rw [List.length_map]; exact q1), List.getElem_map] at h4
      have h5 := hm.2.1 k ((cb_od n p a 0)[k]'q1) hk (by have := (o1 k hk).1; rw [cb_getD _ _ q1] at this; exact this) h4
      exact h5.symm
end CW1
