/-! ===== R: what calls ask of it ===== -/
/-- R stays where nothing it reads changes -/
theorem wr_nop {b : Bool} {I I' : Nat → Nat → Int32} {J : Nat → Nat → Int64} {I2 I2' : Nat → Nat → Int32} {J2 J2' : Nat → Nat → Int64} (h : wr_R b I J I2 J2) (hI : ∀ q k, q ≠ 14 → I' q k = I q k) (hI2 : ∀ q k, q ≠ 23 → ¬ (q = 0 ∧ k = 0) → I2' q k = I2 q k) (hJ2 : J2' 14 = J2 14) : wr_R b I' J I2' J2' := by
  obtain ⟨p, c, T, M, cs, tn, rg, ac, h1, h2, h3, h4, h5, h6, h7⟩ := h
  have h9 : I' 9 = I 9 := funext fun k => hI 9 k (by omega)
  exact ⟨p, c, T, M, cs, tn, rg, ac, wr_S_fr h1 (fun q k _ => hI q k (by omega)) rfl rfl (fun q k _ => hI2 q k (by omega) (by omega)) hJ2, lw_tie_fr h2 (hI 19 3 (by omega)) h9 rfl rfl, cb_sk_fr h3 (fun q k _ => hI q k (by omega)), wr_N_fr h4 h9 (fun q k _ => hI q k (by omega)) (fun q k _ => hI2 q k (by omega) (by omega)), wr_I_fr h5 h9 (fun q k _ => hI q k (by omega)) (fun q k _ => hI2 q k (by omega) (by omega)), wr_O_fr h6 (fun k _ _ => hI 0 k (by omega)) (fun q k _ => hI2 q k (by omega) (by omega)), wr_K_fr h7 (fun q k _ => hI q k (by omega)) (fun q k _ => hI2 q k (by omega) (by omega))⟩
theorem wr_free : lk_free wr_R := fun b I J I2 J2 v h => wr_nop h (fun _ _ _ => rfl) (fun q k _ h0 => by
  by_cases e : q = 0
  · subst e; exact ij_u_other _ _ _ _ (by omega)
  · rw [ij_u_ne e]) rfl
theorem wr_spell : lk_spell wr_R := fun b I J I2 J2 I' I2' h h1 h2 => wr_nop h h1 h2 rfl
theorem wr_gr : lk_gr wr_R := fun b I J I2 J2 J2' h h1 => wr_nop h (fun _ _ _ => rfl) (fun _ _ _ _ => rfl) (h1 14 (by decide) (by decide) (by decide))
theorem wr_tape : lk_tape wr_R := by
  refine ⟨fun b I J I2 J2 h => ?_, fun b I J I2 J2 I' I2' k h h1 h2 hk ht => ?_⟩
  · obtain ⟨p, c, T, M, cs, tn, rg, ac, _, _, _, _, _, _, h7⟩ := h
    exact h7
  · obtain ⟨p, c, T, M, cs, tn, rg, ac, g1, g2, g3, g4, g5, g6, g7⟩ := h
    have h9 : I' 9 = I 9 := funext fun k => h1 9 k (by omega) (by omega)
    exact ⟨p, c, T, M, cs, tn, rg, ac, wr_S_fr g1 (fun q k _ => h1 q k (by omega) (by omega)) rfl rfl (fun q k _ => h2 q k (by omega) (by omega) (by omega)) rfl, lw_tie_fr g2 (h1 19 3 (by omega) (by omega)) h9 rfl rfl, cb_sk_fr g3 (fun q k _ => h1 q k (by omega) (by omega)), wr_N_fr g4 h9 (fun q k _ => h1 q k (by omega) (by omega)) (fun q k _ => h2 q k (by omega) (by omega) (by omega)), wr_I_fr g5 h9 (fun q k _ => h1 q k (by omega) (by omega)) (fun q k _ => h2 q k (by omega) (by omega) (by omega)), wr_O_fr g6 (fun k _ _ => h1 0 k (by omega) (by omega)) (fun q k _ => h2 q k (by omega) (by omega) (by omega)), ⟨k, hk, ht⟩⟩
theorem wr_image : lk_image wr_R := by
  intro b I J I2 J2 I' I2' h hk
  obtain ⟨p, c, T, M, cs, tn, rg, ac, g1, g2, g3, g4, g5, g6, g7⟩ := h
  obtain ⟨k1, k2, ⟨k3, k4, k5, k6⟩, ⟨k7, k8, k9, k10, k11⟩, k12, k13, k14, k15, k16, k17⟩ := hk
  have h9 : I' 9 = I 9 := funext fun k => k16 9 k (by omega) (by omega) (by omega)
  have hT : T ≤ 2000 := g1.2.1.1.2.2.1
  refine ⟨p, c, T, M, cs, tn, rg, ac, wr_S_fr g1 (fun q k _ => k16 q k (by omega) (by omega) (by omega)) rfl rfl (fun q k _ => k17 q k (by omega) (by omega) (by omega) (by omega) (by omega) (by omega)) rfl, lw_tie_fr g2 (k16 19 3 (by omega) (by omega) (by omega)) h9 rfl rfl, cb_sk_fr g3 (fun q k _ => k16 q k (by omega) (by omega) (by omega)), wr_N_fr g4 h9 (fun q k _ => k16 q k (by omega) (by omega) (by omega)) (fun q k _ => k17 q k (by omega) (by omega) (by omega) (by omega) (by omega) (by omega)), ⟨k1.trans k2.symm, Or.inr ⟨k1, ?_⟩⟩, wr_O_fr g6 (fun k _ _ => k16 0 k (by omega) (by omega) (by omega)) (fun q k _ => k17 q k (by omega) (by omega) (by omega) (by omega) (by omega) (by omega)), wr_K_fr g7 (fun q k _ => k16 q k (by omega) (by omega) (by omega)) (fun q k _ => k17 q k (by omega) (by omega) (by omega) (by omega) (by omega) (by omega))⟩
  obtain ⟨a, s, n, m, q, f, h⟩ := g4
  refine ⟨a, s, n, m, q, f, ?_⟩
  rw [h9]
  exact la_st_congr hT k3 k4 k5 k6 k7 k8 k9 k10 k11 k12 k13 k14 k15 h
theorem wr_restore : lk_restore wr_R := by
  refine ⟨fun b I J I2 J2 h => ?_, fun b I J I2 J2 I' I2' h h1 hk => ?_⟩
  · obtain ⟨p, c, T, M, cs, tn, rg, ac, _, _, _, _, h5, _⟩ := h
    refine ⟨h5.1, ?_⟩
    rcases h5.2 with e | e
    · exact Or.inl e
    · exact Or.inr e.1
  · obtain ⟨p, c, T, M, cs, tn, rg, ac, g1, g2, g3, g4, g5, g6, g7⟩ := h
    obtain ⟨⟨k3, k4, k5, k6⟩, ⟨k7, k8, k9, k10, k11⟩, k12, k13, k14, k15, k16, k17⟩ := hk
    have h9 : I' 9 = I 9 := funext fun k => k16 9 k (by omega) (by omega)
    have hT : T ≤ 2000 := g1.2.1.1.2.2.1
    refine ⟨p, c, T, M, cs, tn, rg, ac, wr_S_fr g1 (fun q k _ => k16 q k (by omega) (by omega)) rfl rfl (fun q k _ => k17 q k (by omega) (by omega) (by omega) (by omega)) rfl, lw_tie_fr g2 (k16 19 3 (by omega) (by omega)) h9 rfl rfl, cb_sk_fr g3 (fun q k _ => k16 q k (by omega) (by omega)), ?_, wr_I_fr g5 h9 (fun q k _ => k16 q k (by omega) (by omega)) (fun q k _ => k17 q k (by omega) (by omega) (by omega) (by omega)), wr_O_fr g6 (fun k _ _ => k16 0 k (by omega) (by omega)) (fun q k _ => k17 q k (by omega) (by omega) (by omega) (by omega)), wr_K_fr g7 (fun q k _ => k16 q k (by omega) (by omega)) (fun q k _ => k17 q k (by omega) (by omega) (by omega) (by omega))⟩
    rcases g5.2 with e | ⟨_, a, s, n, m, q, f, h⟩
    · rw [h1] at e; exact absurd e (by decide)
    · refine ⟨a, s, n, m, q, f, ?_⟩
      show la_st _ _ _ _ _ _ _ _ _ _ _ _ _ _ _ _ _ _ _ _ _ _ _ _
      rw [h9]
      exact la_st_congr hT k3 k4 k5 k6 k7 k8 k9 k10 k11 k12 k13 k14 k15 h
section WR2
variable {p c T M : Nat} {cs tn rg : Nat → Nat} {ac : Nat → Nat → Nat} {b : Bool} {I : Nat → Nat → Int32} {J : Nat → Nat → Int64} {I2 : Nat → Nat → Int32} {J2 : Nat → Nat → Int64}
/-- neighbours as a row -/
theorem pf_acr (h : pf_t p T M ac rg I J I2 J2) {a s : Nat} (ha : a < T) (hs : s < p) : I 9 (8 * a + s) = -1 ∧ ¬ ac a s < 2000 ∨ ac a s < T ∧ I 9 (8 * a + s) = nI (ac a s) := by
  obtain ⟨⟨p8, T0, T2, M64⟩, _, h9, hg, _⟩ := h
  have q := ((h9 a ha).2.2.2.2.2.1 s hs).1
  by_cases e : ac a s < 2000
  · right
    refine ⟨(hg.1 a s ha hs e).1, ?_⟩
    rw [q]; exact if_pos e
  · left
    exact ⟨q.trans (pl_e_m1.mpr e), e⟩
theorem pf_nb (h : pf_t p T M ac rg I J I2 J2) {a s u : Nat} (ha : a < T) (hs : s < p) (hu : u < T) (e : I 9 (8 * a + s) = nI u) : ac a s = u := by
  have T2 := h.1.2.2.1
  rcases pf_acr h ha hs with ⟨q, _⟩ | ⟨q1, q2⟩
  · rw [q] at e; exact absurd e.symm (nI_ne_m1 (by omega))
  · rw [q2] at e; exact (nI_eq (by omega) (by omega)).mp e
theorem wr_acr (h : pf_t p T M ac rg I J I2 J2) : lr_acr p T (I 9) := fun a s ha hs => by
  rcases pf_acr h ha hs with ⟨q, _⟩ | ⟨q1, q2⟩
  · exact Or.inl q
  · exact Or.inr ⟨_, q1, q2⟩
theorem wr_eq97 (h : pf_t p T M ac rg I J I2 J2) : ∀ a s, a < T → s < p → I2 7 (8 * a + s) = I 9 (8 * a + s) := fun a s ha hs => by
  obtain ⟨q1, q2⟩ := (h.2.2.1 a ha).2.2.2.2.2.1 s hs
  rw [q1, q2]
theorem wr_symm (h : pf_t p T M ac rg I J I2 J2) : ∀ a s u, a < T → s < p → u < T → I 9 (8 * a + s) = nI u → I 9 (8 * u + s) = nI a := fun a s u ha hs hu e => by
  have T2 := h.1.2.2.1
  have q := pf_nb h ha hs hu e
  obtain ⟨g1, g2, _⟩ := h.2.2.2.1.1 a s ha hs (by omega)
  rw [q] at g2
  rw [((h.2.2.1 u hu).2.2.2.2.2.1 s hs).1, g2]
  exact if_pos (by omega)
theorem wr_nm (h : pf_t p T M ac rg I J I2 J2) : lr_nm p T I I2 := by
  have h0 := h
  obtain ⟨⟨p8, T0, T2, M64⟩, ⟨b2, b3, b4, b5, b6, b7, b8⟩, h9, hg, r0, m1, m2⟩ := h
  refine ⟨b2, b3, b4, b5, p8, T2, fun a ha => ?_⟩
  obtain ⟨q1, q2, q3, _⟩ := h9 a ha
  refine ⟨rg a, by omega, q1, q2, ?_⟩
  by_cases e : a = 0
  · exact Or.inl (by rw [e]; exact r0)
  · right
    obtain ⟨s, u, k1, k2, k3, k4, k5, k6, k7, k8⟩ := m2 a (by omega) ha
    refine ⟨s, u, k1, by omega, k3, k4, k5, ?_, ?_⟩
    · rw [((h9 a ha).2.2.2.2.2.1 s k1).1, k6]; exact if_pos (by omega)
    · rw [(h9 u (by omega)).1, k7]; rfl
theorem lc_sm (f : Nat → Bool) : ∀ (m s : Nat), lc_c f s m = sm (fun y => if f (s + y) then 1 else 0) m := by
  intro m
  induction m with
  | zero => intro s; rfl
  | succ m ih =>
    intro s
    show (if f s then 1 else 0) + lc_c f (s + 1) m = _
    rw [ih (s + 1)]
    clear ih
    induction m with
    | zero => show (if f s then 1 else 0) + 0 = 0 + (if f (s + 0) then 1 else 0); rw [Nat.add_zero, Nat.add_zero, Nat.zero_add]
    | succ m ih =>
      show (if f s then 1 else 0) + (sm (fun y => if f (s + 1 + y) then 1 else 0) m + (if f (s + 1 + m) then 1 else 0)) = sm (fun y => if f (s + y) then 1 else 0) (m + 1) + (if f (s + (m + 1)) then 1 else 0)
      rw [← ih, show s + 1 + m = s + (m + 1) by omega]
      omega
theorem wr_tile (h : pf_t p T M ac rg I J I2 J2) (hc : ∀ j, j < p → I 8 j = I2 22 j) (hn : wr_N p T c tn I I2) : lr_tile p T I I2 := by
  have h0 := h
  obtain ⟨⟨p8, T0, T2, M64⟩, ⟨b2, b3, b4, b5, b6, b7, b8⟩, h9, hg, r0, m1, m2⟩ := h
  refine ⟨wr_nm h0, wr_acr h0, wr_eq97 h0, fun a ha => ?_, fun a ha => ⟨fun hr => ?_, fun s u hs hu hr hl hx => ?_⟩, fun a ha => ?_⟩
  · obtain ⟨q1, q2, q3, q4, _⟩ := h9 a ha
    rw [q4, lc_sm]
    refine congrArg nI (sm_congr (fun y hy => ?_))
    rw [Nat.zero_add]
    have key : (lf_ls (I 9) (I 10) a y = true) ↔ ac a y < a := by
      unfold lf_ls
      rcases pf_acr h0 ha hy with ⟨w1, w2⟩ | ⟨w1, w2⟩
      · rw [w1]
        constructor
        · intro z; exact absurd z (by simp)
        · intro z; omega
      · rw [w2, nI_clamp (by omega), (h9 _ w1).1, q1]
        have e1 : (nI (ac a y) == -1) = false := by
          rw [beq_eq_false_iff_ne]; exact nI_ne_m1 (by omega)
        rw [e1, Bool.not_false, Bool.true_and, decide_eq_true_iff]
        have := pg_up hg ha hy (by omega)
        have l1 : rg (ac a y) ≤ M := (h9 _ w1).2.2.1
        constructor
        · intro z
          have := (nI_ltI (by omega) (by omega)).mp z
          have g3 := (hg.1 a y ha hy (by omega)).2.2
          omega
        · intro z
          refine nI_lt ?_ (by omega)
          omega
    by_cases e : ac a y < a
    · rw [if_pos e, if_pos (key.mpr e)]
    · rw [if_neg e, if_neg (fun z => e (key.mp z))]
  · by_cases e : a = 0
    · rw [e]; exact m1
    · obtain ⟨s, u, k1, k2, k3, k4, k5, k6, k7, k8⟩ := m2 a (by omega) ha
      rw [(h9 a ha).1, k7] at hr
      have := (h9 a ha).2.2.1
      exact absurd hr (nI_ne0 (by omega) (by omega))
  · by_cases e : a = 0
    · rw [e] at hr
      rw [(h9 0 (by omega)).1, r0] at hr
      exact absurd rfl hr
    · obtain ⟨s', u', k1, k2, k3, k4, k5, k6, k7, k8⟩ := m2 a (by omega) ha
      rw [k3] at hl
      have es : s' = s := (nI_eq (by omega) (by omega)).mp hl
      subst es
      have eu := pf_nb h0 ha hs hu hx
      rw [k6] at eu
      subst eu
      refine ⟨?_, ?_⟩
      · rw [(h9 u' hu).1, (h9 a ha).1, k7]
        exact (nI_pred _).symm
      · rw [k8, hc s' hs]
  · obtain ⟨x1, x2, x3, x4, x5, x6, _, _, _, hp, _⟩ := hn
    obtain ⟨e1, e2, _⟩ := hp a ha
    rw [e1, e2]
theorem wr_in (h : pf_t p T M ac rg I J I2 J2) : lr_in p T M (I 10) (I 9) := by
  have h0 := h
  obtain ⟨⟨p8, T0, T2, M64⟩, _, h9, hg, r0, _⟩ := h
  refine ⟨T0, by rw [(h9 0 T0).1, r0]; rfl, fun a ha => ⟨rg a, (h9 a ha).2.2.1, by have := (h9 a ha).2.2.1; omega, (h9 a ha).1, fun hl s hs => ?_⟩⟩
  have q := (h9 a ha).2.2.2.2.2.2.2 hl s hs
  refine ⟨ac a s, rg (ac a s), q, ?_, (h9 _ q).1, ?_⟩
  · rw [((h9 a ha).2.2.2.2.2.1 s hs).1]; exact if_pos (by omega)
  · have := (hg.1 a s ha hs (by omega)).2.2; omega
theorem wr_wbase (hp3 : 3 ≤ p) (h : pf_t p T M ac rg I J I2 J2) : lw_base p T M rg I I2 := by
  have h0 := h
  obtain ⟨⟨p8, T0, T2, M64⟩, ⟨b2, b3, b4, b5, b6, b7, b8⟩, h9, hg, r0, m1, m2⟩ := h
  refine ⟨b2, b3, b4, b5, b6, b7, p8, by omega, T2, T0, M64, ⟨wr_acr h0, wr_symm h0⟩, wr_eq97 h0, fun t ht => ⟨(h9 t ht).1, (h9 t ht).2.1⟩, r0, fun t ht => by have := (h9 t ht).2.2.1; omega, fun a c hac hc => hg.2 a c hac hc, fun a s u ha hs hu e => ?_⟩
  have q := pf_nb h0 ha hs hu e
  have := (hg.1 a s ha hs (by omega)).2.2
  rw [q] at this; exact this
theorem wr_abase (h : wr_S p c T M cs tn rg ac I J I2 J2) : la_base p T c tn I I2 := by
  obtain ⟨⟨a1, a2, a3⟩, h2, _, _, _, ⟨f1, f2⟩, f3, f4, f5⟩ := h
  have h0 := h2
  obtain ⟨⟨p8, T0, T2, M64⟩, ⟨b2, b3, b4, b5, b6, b7, b8⟩, _⟩ := h2
  exact ⟨b2, b3, b4, f3, f4, ⟨by omega, p8⟩, T2, ⟨by omega, f2⟩, f5, wr_acr h0, wr_eq97 h0, wr_symm h0⟩
end WR2
theorem wr_ant : lk_ant wr_R := by
  intro b I J I2 J2 h
  obtain ⟨p, c, T, M, cs, tn, rg, ac, g1, g2, g3, g4, g5, g6, g7⟩ := h
  obtain ⟨a, s, n, m, q, f, hn⟩ := g4
  refine ⟨p, T, c, tn, a, s, n, m, q, f, wr_abase g1, hn, g6.2.2.1, g6.2.2.2, fun I' I2' a' s' n' m' q' f' h1 h2 hn' e1 e2 => ?_⟩
  have h9 : I' 9 = I 9 := funext fun k => h1 9 k (by omega) (by omega) (by omega)
  exact ⟨p, c, T, M, cs, tn, rg, ac, wr_S_fr g1 (fun q k _ => h1 q k (by omega) (by omega) (by omega)) rfl rfl (fun q k _ => h2 q k (by omega) (by omega) (by omega) (by omega) (by omega)) rfl, lw_tie_fr g2 (h1 19 3 (by omega) (by omega) (by omega)) h9 rfl rfl, cb_sk_fr g3 (fun q k _ => h1 q k (by omega) (by omega) (by omega)), ⟨a', s', n', m', q', f', hn'⟩, wr_I_fr g5 h9 (fun q k _ => h1 q k (by omega) (by omega) (by omega)) (fun q k _ => h2 q k (by omega) (by omega) (by omega) (by omega) (by omega)), ⟨by rw [h1 0 7 (by omega) (by omega) (by omega), h2 0 8 (by omega) (by omega) (by omega) (by omega) (by omega)]; exact g6.1, by rw [h1 0 8 (by omega) (by omega) (by omega), h2 4 0 (by omega) (by omega) (by omega) (by omega) (by omega)]; exact g6.2.1, e1, e2⟩, wr_K_fr g7 (fun q k _ => h1 q k (by omega) (by omega) (by omega)) (fun q k _ => h2 q k (by omega) (by omega) (by omega) (by omega) (by omega))⟩
theorem wr_walks : lk_walks wr_R := by
  intro b I J I2 J2 h
  obtain ⟨p, c, T, M, cs, tn, rg, ac, g1, g2, g3, g4, g5, g6, g7⟩ := h
  refine ⟨p, T, M, rg, wr_wbase g1.1.1 g1.2.1, g2, fun b' I' J' I2' J2' h1 hJ h2 hJ2 ht => ?_⟩
  have h9 : I' 9 = I 9 := funext fun k => h1 9 k (by omega)
  exact ⟨p, c, T, M, cs, tn, rg, ac, wr_S_fr g1 (fun q k _ => h1 q k (by omega)) (hJ 12 (by decide) (by decide)) (hJ 16 (by decide) (by decide)) (fun q k _ => h2 q k (by omega)) (hJ2 14 (by decide) (by decide)), ht, cb_sk_fr g3 (fun q k _ => h1 q k (by omega)), wr_N_fr g4 h9 (fun q k _ => h1 q k (by omega)) (fun q k _ => h2 q k (by omega)), wr_I_fr g5 h9 (fun q k _ => h1 q k (by omega)) (fun q k _ => h2 q k (by omega)), wr_O_fr g6 (fun k _ _ => h1 0 k (by omega)) (fun q k _ => h2 q k (by omega)), wr_K_fr g7 (fun q k _ => h1 q k (by omega)) (fun q k _ => h2 q k (by omega))⟩
theorem wr_closed : lk_closed wr_R := by
  intro b I J I2 J2 h
  obtain ⟨p, c, T, M, cs, tn, rg, ac, g1, g2, g3, g4, g5, g6, g7⟩ := h
  have p8 := g1.1.2.1
  refine ⟨p, cs, g1.1, ⟨g1.2.1.2.1.1, fun j hj => by rw [g1.2.2.1.1 j (by omega), if_pos hj]⟩, ⟨g1.2.1.2.1.2.1, fun j hj => by rw [g1.2.2.1.2 j (by omega), if_pos hj]⟩, g3, fun I' J' I2' h1 hJ h2 hs => ?_⟩
  have h9 : I' 9 = I 9 := funext fun k => h1 9 k (by omega) (by omega) (by omega) (by omega) (by omega) (by omega)
  exact ⟨p, c, T, M, cs, tn, rg, ac, wr_S_fr g1 (fun q k _ => h1 q k (by omega) (by omega) (by omega) (by omega) (by omega) (by omega)) (hJ 12 (by decide) (by decide)) (hJ 16 (by decide) (by decide)) (fun q k _ => h2 q k (by omega) (by omega)) rfl, lw_tie_fr g2 (h1 19 3 (by omega) (by omega) (by omega) (by omega) (by omega) (by omega)) h9 (hJ 20 (by decide) (by decide)) (hJ 21 (by decide) (by decide)), hs, wr_N_fr g4 h9 (fun q k _ => h1 q k (by omega) (by omega) (by omega) (by omega) (by omega) (by omega)) (fun q k _ => h2 q k (by omega) (by omega)), wr_I_fr g5 h9 (fun q k _ => h1 q k (by omega) (by omega) (by omega) (by omega) (by omega) (by omega)) (fun q k _ => h2 q k (by omega) (by omega)), wr_O_fr g6 (fun k _ _ => h1 0 k (by omega) (by omega) (by omega) (by omega) (by omega) (by omega)) (fun q k _ => h2 q k (by omega) (by omega)), wr_K_fr g7 (fun q k _ => h1 q k (by omega) (by omega) (by omega) (by omega) (by omega) (by omega)) (fun q k _ => h2 q k (by omega) (by omega))⟩
