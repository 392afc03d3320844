/-! ===== three sides, faster (6): a board is known by its run ===== -/
theorem r2_of {s y : Nat} (hs : s < 3) (hy : y < 3) (h1 : ¬ y = s) (h2 : ¬ y = (s + 1) % 3) : y = (s + 3 - 1) % 3 := by omega
theorem r2_s (s : Nat) : (s + 2) % 3 = (s + 3 - 1) % 3 := by omega
theorem un9_eq {β : Type} (σ : Sf) (F : Nat → Nat → Nat → Nat → Nat → Nat → Nat → Nat → Nat → β) : un9 σ F = F σ.1 σ.2.1 σ.2.2.1 σ.2.2.2.1 σ.2.2.2.2.1 σ.2.2.2.2.2.1 σ.2.2.2.2.2.2.1 σ.2.2.2.2.2.2.2.1 σ.2.2.2.2.2.2.2.2 := rfl
theorem fin9_of (σ : Sf) (h : un9 σ (fun n _ _ _ _ _ X _ _ => Nat.beq n 0 && okX X) = true) : fin9 σ := by
  rw [un9_eq, Bool.and_eq_true] at h
  exact ⟨Nat.eq_of_beq_eq_true h.1, h.2⟩
/-- neighbours under way, by tables -/
def W3 (N : Nat) (T : Nat → Nat) (a : Nat → Nat → Nat) (G : Nat → Nat) : Prop := N ≤ 2000 ∧ (∀ i y, N ≤ i → y < 3 → fl 12 (T y) i = 0) ∧ ∀ x y, x < N → y < 3 → a x y = de (fl 12 (T y) x) ∧ fl 12 (T y) x ≤ 2000 ∧ (a x y < 2000 → a x y < N ∧ a (a x y) y = x ∧ (G (a x y) < G x ↔ a x y < x))
theorem W3_WT {N : Nat} {T : Nat → Nat} {a : Nat → Nat → Nat} {G : Nat → Nat} (h : W3 N T a G) {s r : Nat} (hs : s < 3) (hr : r < 3) : WT N s r T a G := ⟨h.1, fun x y hx hy => h.2.2 x y hx (by omega)⟩
theorem W3_j {n F r : Nat} {T T' : Nat → Nat} {a : Nat → Nat → Nat} {G : Nat → Nat} (h : W3 (n + 1) T a G) (hF : F < n) (hr : r < 3) (z1 : fl 12 (T r) F = 0) (z2 : fl 12 (T r) n = 0) (hG : G F < G n) (e1 : T' r = pj (T r) F n) (e2 : ∀ y, y ≠ r → T' y = T y) : W3 (n + 1) T' (ac_j a F r n) G := by
  obtain ⟨hN, hz0, h⟩ := h
  have q := pj_fl (B := T r) hF (show n < 2000 by omega) z1 z2
  have aF : ¬ a F r < 2000 := by
    rw [(h F r (by omega) hr).1, z1]; exact Nat.lt_irrefl 2000
  have an : ¬ a n r < 2000 := by
    rw [(h n r (by omega) hr).1, z2]; exact Nat.lt_irrefl 2000
  have jn : ∀ x y, ac_j a F r n x y = if x = n ∧ y = r then F else if x = F ∧ y = r then n else a x y := fun x y => rfl
  refine ⟨hN, fun i y hi hy => ?_, fun x y hx hy => ?_⟩
  · by_cases c : y = r
    · rw [c, e1, q, if_neg (by omega), if_neg (by omega)]
      exact hz0 i r hi hr
    · rw [e2 y c]; exact hz0 i y hi hy
  obtain ⟨g1, g2, g3⟩ := h x y hx hy
  by_cases c : y = r
  · subst c
    rw [e1, q, jn]
    by_cases c1 : x = n
    · rw [if_pos ⟨c1, rfl⟩, if_pos c1]
      refine ⟨rfl, by omega, fun _ => ⟨by omega, ?_, ?_⟩⟩
      · rw [jn, if_neg (fun z : F = n ∧ y = y => by omega), if_pos ⟨rfl, rfl⟩, c1]
      · rw [c1]; exact ⟨fun _ => hF, fun _ => hG⟩
    · rw [if_neg (fun z => c1 z.1), if_neg c1]
      by_cases c2 : x = F
      · rw [if_pos ⟨c2, rfl⟩, if_pos c2]
        refine ⟨rfl, by omega, fun _ => ⟨by omega, ?_, ?_⟩⟩
        · rw [jn, if_pos ⟨rfl, rfl⟩, c2]
        · rw [c2]; omega
      · rw [if_neg (fun z => c2 z.1), if_neg c2]
        refine ⟨g1, g2, fun hz => ?_⟩
        obtain ⟨g4, g5, g6⟩ := g3 hz
        refine ⟨g4, ?_, g6⟩
        have n1 : a x y ≠ n := fun e => by
          rw [e] at g5
          exact an (by rw [g5]; omega)
        have n2 : a x y ≠ F := fun e => by
          rw [e] at g5
          exact aF (by rw [g5]; omega)
        rw [jn, if_neg (fun z => n1 z.1), if_neg (fun z => n2 z.1)]
        exact g5
  · rw [e2 y c, jn, if_neg (fun z => c z.2), if_neg (fun z => c z.2)]
    refine ⟨g1, g2, fun hz => ?_⟩
    obtain ⟨g4, g5, g6⟩ := g3 hz
    refine ⟨g4, ?_, g6⟩
    rw [jn, if_neg (fun z => c z.2), if_neg (fun z => c z.2)]
    exact g5
/-- one join -/
theorem jn9 {β : Type} {er0 : β} {n t s r m : Nat} {T : Nat → Nat} {a : Nat → Nat → Nat} {G : Nat → Nat} (hW : W3 (n + 1) T a G) (ht : t < n) (hs : s < 3) (hr : r < 3) (hz : a n r = 2000) (hgr : ∀ F l0 l1 z, F < n → m ≠ 0 → (l0 = s ∧ l1 = r ∨ l0 = r ∧ l1 = s) → up a l0 l1 z (m - 1) t → up a l1 l0 z (m - 1) F → G F < G n) (k : Nat → β) : kj3 er0 n t (T s) (T r) m k = er0 ∨ ∃ T', W3 (n + 1) T' (ac_jn a (jr a G (s + r) m t r) r n) G ∧ (∀ y, y ≠ r → T' y = T y) ∧ kj3 er0 n t (T s) (T r) m k = k (T' r) ∧ (jr a G (s + r) m t r < 2000 → t < jr a G (s + r) m t r ∧ jr a G (s + r) m t r < n ∧ ¬ a (jr a G (s + r) m t r) r < 2000 ∧ m ≠ 0 ∧ ∃ l0 l1 z, (l0 = s ∧ l1 = r ∨ l0 = r ∧ l1 = s) ∧ up a l0 l1 z (m - 1) t ∧ up a l1 l0 z (m - 1) (jr a G (s + r) m t r) ∧ al l0 l1 (m - 1) = s ∧ al l1 l0 (m - 1) = r) := by
  rcases kj3_sem (er0 := er0) (n := n) (t := t) (m := m) k (Or.inl ⟨rfl, rfl⟩) (W3_WT hW hs hr) (show t < n + 1 by omega) with e | ⟨c, e⟩ | ⟨c, c1, c2, c3, hm, ch, e⟩
  · exact Or.inl e
  · right
    refine ⟨T, ?_, fun _ _ => rfl, e, fun z => absurd z c⟩
    unfold ac_jn
    rw [if_neg c]
    exact hW
  · right
    generalize jr a G (s + r) m t r = F at c c1 c2 c3 ch e ⊢
    have F2 : F < 2000 := by have := hW.1; omega
    obtain ⟨l0, l1, z, k1, k2, k3, k4, k5⟩ := ch
    have z2 : fl 12 (T r) n = 0 := by
      obtain ⟨q1, q2, _⟩ := hW.2.2 n r (by omega) hr
      rw [hz] at q1
      exact (de_lt q2).2.1 (by omega)
    refine ⟨fun y => if y = r then pj (T r) F n else T y, ?_, fun y hy => if_neg hy, ?_, fun _ => ⟨c1, c2, ?_, hm, l0, l1, z, k1, k2, k3, k4, k5⟩⟩
    · unfold ac_jn
      rw [if_pos F2]
      exact W3_j hW c2 hr c3 z2 (hgr F l0 l1 z c2 hm k1 k2 k3) (if_pos rfl) (fun y hy => if_neg hy)
    · rw [e]
      exact congrArg k (if_pos rfl).symm
    · rw [(hW.2.2 F r (by omega) hr).1, c3]; exact Nat.lt_irrefl 2000
/-- ways up in the plane before -/
theorem up_low {n : Nat} {ac a : Nat → Nat → Nat} {l0 l1 z : Nat} (h0 : l0 < 3) (h1 : l1 < 3) (h : ∀ x y, x < n → y < 3 → a x y < n → ac x y = a x y) : ∀ {k x : Nat}, x < n → up a l0 l1 z k x → up ac l0 l1 z k x := by
  intro k
  induction k with
  | zero => intro x _ hu; exact hu
  | succ k ih =>
    intro x hx hu
    obtain ⟨x', u1, u2, u3, u4, u5⟩ := hu
    have l := al_lt h0 h1 k
    refine ⟨x', ih (by omega) u1, u2, u3, ?_, ?_⟩
    · rw [h x _ hx l (by rw [u4]; omega)]; exact u4
    · rw [h x' _ (by omega) l (by rw [u5]; exact hx)]; exact u5
def IV9 (cs : Nat → Nat) (n : Nat) (ac : Nat → Nat → Nat) (rg : Nat → Nat) (V1 V2 : Nat → Nat → Nat) (t s : Nat) (T : Nat → Nat) (V X te c r : Nat) : Prop := (t < n ∧ n ≤ 2000 ∧ s ≤ 3 ∧ pg_g 3 n ac rg) ∧ ((∀ x y, x < t → y < 3 → ac x y < 2000) ∧ (∀ y, y < s → ac t y < 2000) ∧ ∀ x, x < n → rg x ≤ rg t + 1) ∧ ((∀ x, x < te → rg x ≤ c) ∧ (∀ x, x < n → rg x ≤ c + 1) ∧ t < te ∧ te ≤ n ∧ c < 62) ∧ (∀ x y, x < n → y < 3 → x < ac x y → ac x y < 2000 → rv_e 3 (V1 (ac x y)) (V2 (ac x y)) (rv_w1 3 cs V1 x y) (rv_w2 3 cs V2 x y)) ∧ (∀ x j, x < n → j < 3 → V1 x j < an_P1 ∧ V2 x j < an_P2) ∧ ((∀ x y, x < n → y < 3 → ac x y = de (fl 12 (T y) x) ∧ fl 12 (T y) x ≤ 2000) ∧ ∀ i y, n ≤ i → y < 3 → fl 12 (T y) i = 0) ∧ ((∀ x j, x < n → j < 3 → V1 x j = fl 32 (fl 96 V x) j) ∧ (∀ i, n ≤ i → fl 96 V i = 0) ∧ r = fl 96 V t) ∧ X = ofD 34 (hl (fun x => hV 3 (V1 x)) n)
def Q9 (cs M C : Nat → Nat) : pg_Q := fun n ac rg V1 V2 t s => ∃ (k : Nat) (T : Nat → Nat) (V X te c r : Nat), fin9 (itr9 M C k (fq M C s n t r T V X te c)) ∧ IV9 cs n ac rg V1 V2 t s T V X te c r
section Q91
variable {cs M C : Nat → Nat}
/-- no tile has the vector that comes next -/
theorem q9_no {n t s X r : Nat} {V1 V2 : Nat → Nat → Nat} {u : List Nat} (hs : s < 3) (hC : ∀ y, y < 3 → C y = an_c1 (cs y)) (hr : ∀ j, j < 3 → V1 t j = fl 32 r j) (hX : X = ofD 34 (hl (fun x => hV 3 (V1 x)) n)) (h1 : okX (pr u (hs3 (tv3 (32 * s) (32 * ((s + 1) % 3)) (32 * ((s + 3 - 1) % 3)) (C s) (C ((s + 3 - 1) % 3)) r) + 17179869184 * X)) = true) (h2 : u.length + (n + 1) ≤ 2001) (h3 : ∀ a, a ∈ u → a < 4294967296) : ∀ x, x < n → ¬ rv_e 3 (V1 x) (V2 x) (rv_w1 3 cs V1 t s) (rv_w2 3 cs V2 t s) := by
  intro x hx he
  obtain ⟨_, kt⟩ := tv3_ok (cs := cs) (r := r) hs (hC s hs) (hC ((s + 2) % 3) (Nat.mod_lt _ (by decide))) (V := V1 t) hr
  have hh : hs3 (tv3 (32 * s) (32 * ((s + 1) % 3)) (32 * ((s + 3 - 1) % 3)) (C s) (C ((s + 3 - 1) % 3)) r) = hV 3 (V1 x) := by
    rw [show (s + 3 - 1) % 3 = (s + 2) % 3 by omega]
    exact hs3_ok (fun j hj => (he j hj).1.trans (kt j hj))
  have l1' : okX (ofD 34 (u ++ hs3 (tv3 (32 * s) (32 * ((s + 1) % 3)) (32 * ((s + 3 - 1) % 3)) (C s) (C ((s + 3 - 1) % 3)) r) :: hl (fun x => hV 3 (V1 x)) n)) = true := by
    rw [← pr_ofD]
    rw [hX] at h1
    exact h1
  refine okX_no l1' (by rw [hl_len]; omega) (fun a ha => ?_) ?_
  · rcases List.mem_append.mp ha with c | c
    · exact h3 a c
    · rcases List.mem_cons.mp c with c | c
      · rw [c]; exact hs3_lt _
      · obtain ⟨x, e⟩ := hl_all n c
        rw [e]; exact hV_lt _ _
  · rw [hh]
    exact hl_mem (H := fun x => hV 3 (V1 x)) n hx
theorem Q9_ok (hcs : ∀ j, j < 3 → cs j < 10 ∧ cs j ≠ 1) (hM : ∀ y, y < 3 → M y = cs y) (hC : ∀ y, y < 3 → C y = an_c1 (cs y)) (h0 : Q9 cs M C 1 (fun _ _ => 2000) (fun _ => 0) (fun _ _ => 1) (fun _ _ => 1) 0 0) : pg_ok 3 cs (Q9 cs M C) := by
  refine ⟨h0, ?_⟩
  intro n ac rg V1 V2 t s hq
  obtain ⟨k, T, V, X, te, c, r, hf, ⟨i1, i2, i3, i4⟩, ⟨j1, j2, j3⟩, ⟨d1, d2, d3, d4, d5⟩, hVV, hlt, ⟨a1, a2⟩, ⟨v1, v2, v3⟩, hX⟩ := hq
  have n0 : 0 < n := by omega
  refine ⟨⟨i1, i4, by have := d1 t d3; omega, j1⟩, fun es => ?_, fun hs ha => ?_, fun hs ha => ?_⟩
  · subst es
    have hf' : fin9 (itr9 M C k (f3 n t (T 0) (T 1) (T 2) V X te c)) := hf
    have nx : ∀ te' c', t + 1 < n → fin9 (itr9 M C k (n, t + 1, T 0, T 1, T 2, V, X, te', c')) → (∀ x, x < te' → rg x ≤ c') → (∀ x, x < n → rg x ≤ c' + 1) → t + 1 < te' → te' ≤ n → c' < 62 → Q9 cs M C n ac rg V1 V2 (t + 1) 0 := fun te' c' b0 b1 b2 b3 b4 b5 b6 => by
      obtain ⟨k', _, k2⟩ := fin9_next T rfl rfl rfl n0 b1
      refine ⟨k', T, V, X, te', c', _, k2, ⟨b0, i2, Nat.zero_le _, i4⟩, ⟨fun x y hx hy => ?_, fun y hy => absurd hy (Nat.not_lt_zero y), fun x hx => ?_⟩, ⟨b2, b3, b4, b5, b6⟩, hVV, hlt, ⟨a1, a2⟩, ⟨v1, v2, rfl⟩, hX⟩
      · by_cases e : x < t
        · exact j1 x y e hy
        · rw [show x = t by omega]; exact j2 y hy
      · have m := i4.2 t (t + 1) (by omega) b0
        have := j3 x hx
        omega
    rcases f3_cases (T := T) (n := n) (t := t) (V := V) (X := X) (te := te) (c := c) with e | ⟨e1, e2, e⟩ | ⟨e1, e2, e3, e⟩
    · rw [e] at hf'; exact (fin9_0 hf').elim
    · rw [e] at hf'
      exact nx te c e1 hf' d1 d2 e2 d4 d5
    · rw [e] at hf'
      exact nx n (c + 1) e1 hf' (fun x hx => d2 x hx) (fun x hx => by have := d2 x hx; omega) e1 (Nat.le_refl n) e3
  · refine ⟨fun hl => hVV t s i1 hs hl ha, ?_⟩
    obtain ⟨g1, g2⟩ := a1 t s i1 hs
    have g3 : fl 12 (T s) t ≠ 0 := by
      rw [g1] at ha
      exact (de_lt g2).1.mp ha
    rw [fq_sd hs, sd_old g3, fq_congr (Tu_same hs)] at hf
    refine ⟨k, T, V, X, te, c, r, hf, ⟨i1, i2, by omega, i4⟩, ⟨j1, fun y hy => ?_, j3⟩, ⟨d1, d2, d3, d4, d5⟩, hVV, hlt, ⟨a1, a2⟩, ⟨v1, v2, v3⟩, hX⟩
    by_cases e : y < s
    · exact j2 y e
    · rw [show y = s by omega]; exact ha
  · obtain ⟨g1, g2⟩ := a1 t s i1 hs
    have g3 : fl 12 (T s) t = 0 := by
      rw [g1] at ha
      exact (de_lt g2).2.1 ha
    have hr : ∀ j, j < 3 → V1 t j = fl 32 r j := fun j hj => by rw [v3]; exact v1 t j i1 hj
    rw [fq_sd hs] at hf
    by_cases hn : n < 2000
    · rw [sd_new g3 hn] at hf
      obtain ⟨o1, o2, o3, o4, o5⟩ := nb_sides (show 3 ≤ 3 by decide) hs
      have rgx : ∀ x, x < n → nb_rg rg n t x = rg x := fun x hx => if_neg (by omega)
      have rgn : nb_rg rg n t n = rg t + 1 := if_pos rfl
      -- the tables with the new tile
      have W0 : W3 (n + 1) T (fun x y => if x = n then 2000 else ac x y) (nb_rg rg n t) := by
        refine ⟨by omega, fun i y hi hy => a2 i y (by omega) hy, fun x y hx hy => ?_⟩
        show (if x = n then 2000 else ac x y) = de (fl 12 (T y) x) ∧ fl 12 (T y) x ≤ 2000 ∧ ((if x = n then 2000 else ac x y) < 2000 → (if x = n then 2000 else ac x y) < n + 1 ∧ (if (if x = n then 2000 else ac x y) = n then 2000 else ac (if x = n then 2000 else ac x y) y) = x ∧ (nb_rg rg n t (if x = n then 2000 else ac x y) < nb_rg rg n t x ↔ (if x = n then 2000 else ac x y) < x))
        by_cases e : x = n
        · rw [if_pos e, e, a2 n y (Nat.le_refl n) hy]
          exact ⟨rfl, by omega, fun z => absurd z (Nat.lt_irrefl 2000)⟩
        · rw [if_neg e]
          obtain ⟨b1, b2⟩ := a1 x y (by omega) hy
          refine ⟨b1, b2, fun hz => ?_⟩
          obtain ⟨p1, p2, p3⟩ := i4.1 x y (by omega) hy hz
          have pu := pg_up i4 (show x < n by omega) hy hz
          refine ⟨by omega, ?_, ?_⟩
          · rw [if_neg (by omega)]; exact p2
          · rw [rgx _ p1, rgx x (by omega)]
            constructor
            · intro z
              exact pu.2.mpr (by omega)
            · intro z
              have := pu.2.mp z
              omega
      have eA2 : nb_a2 ac n t s = ac_j (fun x y => if x = n then 2000 else ac x y) t s n := by
        unfold nb_a2 ac_jn
        rw [if_pos (show t < 2000 by omega)]
      obtain ⟨T2, t2s, t2n, W2⟩ : ∃ T2 : Nat → Nat, T2 s = pj (T s) t n ∧ (∀ y, y ≠ s → T2 y = T y) ∧ W3 (n + 1) T2 (nb_a2 ac n t s) (nb_rg rg n t) := by
        refine ⟨fun y => if y = s then pj (T s) t n else T y, if_pos rfl, fun y hy => if_neg hy, ?_⟩
        rw [eA2]
        exact W3_j W0 i1 hs g3 (a2 n s (Nat.le_refl n) hs) (by rw [rgx t i1, rgn]; omega) (if_pos rfl) (fun y hy => if_neg hy)
      have an2 : ∀ y, y ≠ s → nb_a2 ac n t s n y = 2000 := fun y hy => by
        rw [eA2]
        show (if n = n ∧ y = s then t else if n = t ∧ y = s then n else if n = n then 2000 else ac n y) = 2000
        rw [if_neg (fun z => hy z.2), if_neg (fun z => hy z.2), if_pos rfl]
      have lo2 : ∀ x y, x < n → y < 3 → nb_a2 ac n t s x y < n → ac x y = nb_a2 ac n t s x y := fun x y hx _ hz => by
        rw [nb_a2_x i1 hn hx] at hz ⊢
        by_cases e : x = t ∧ y = s
        · rw [if_pos e] at hz; omega
        · rw [if_neg e]
      have rup : ∀ {F l0 l1 z m : Nat}, F < n → l0 < 3 → l1 < 3 → up ac l0 l1 z m t → up ac l1 l0 z m F → rg F = rg t := fun {F l0 l1 z m} hF hl0 hl1 u1 u2 => by
        have q1 := up_rg i4 hl0 hl1 i1 u1
        have q2 := up_rg i4 hl1 hl0 hF u2
        omega
      have lll : ∀ {l0 l1 r' : Nat}, r' < 3 → (l0 = s ∧ l1 = r' ∨ l0 = r' ∧ l1 = s) → l0 < 3 ∧ l1 < 3 := fun h1 h2 => by omega
      rw [hM s hs, hM _ o5] at hf
      generalize hv : tv3 (32 * s) (32 * ((s + 1) % 3)) (32 * ((s + 3 - 1) % 3)) (C s) (C ((s + 3 - 1) % 3)) r = v at hf
      -- the first join
      have J1 := jn9 (er0 := dn9 0) (m := cs s) W2 i1 hs o4 (an2 _ o1) (fun F l0 l1 z hF _ hl u1 u2 => by
        obtain ⟨b1, b2⟩ := lll o4 hl
        rw [rgx F hF, rgn, rup hF b1 b2 (up_low b1 b2 lo2 i1 u1) (up_low b2 b1 lo2 hF u2)]
        omega) (fun Bb3 => kj3 (dn9 0) n t (pj (T s) t n) (T ((s + 3 - 1) % 3)) (cs ((s + 3 - 1) % 3)) fun Bc3 => fq M C (s + 1) (n + 1) t r (Tu s (pj (T s) t n) Bb3 Bc3) (fp 96 V v n) (hs3 v + 17179869184 * X) te c)
      rw [t2s, t2n _ o1] at J1
      rcases J1 with e | ⟨T3, W3', T3n, e, f1⟩
      · rw [e] at hf; exact (fin9_0 hf).elim
      rw [e] at hf
      have W3a : W3 (n + 1) T3 (nb_a3 3 cs ac rg n t s) (nb_rg rg n t) := W3'
      have f1' : nb_f1 3 cs ac rg n t s < 2000 → t < nb_f1 3 cs ac rg n t s ∧ nb_f1 3 cs ac rg n t s < n ∧ ¬ nb_a2 ac n t s (nb_f1 3 cs ac rg n t s) ((s + 1) % 3) < 2000 ∧ cs s ≠ 0 ∧ ∃ l0 l1 z, (l0 = s ∧ l1 = (s + 1) % 3 ∨ l0 = (s + 1) % 3 ∧ l1 = s) ∧ up (nb_a2 ac n t s) l0 l1 z (cs s - 1) t ∧ up (nb_a2 ac n t s) l1 l0 z (cs s - 1) (nb_f1 3 cs ac rg n t s) ∧ al l0 l1 (cs s - 1) = s ∧ al l1 l0 (cs s - 1) = (s + 1) % 3 := f1
      have an3 : nb_a3 3 cs ac rg n t s n ((s + 3 - 1) % 3) = 2000 := by
        unfold nb_a3 ac_jn
        by_cases e : nb_f1 3 cs ac rg n t s < 2000
        · rw [if_pos e]
          show (if n = n ∧ (s + 3 - 1) % 3 = (s + 1) % 3 then _ else if n = nb_f1 3 cs ac rg n t s ∧ (s + 3 - 1) % 3 = (s + 1) % 3 then n else nb_a2 ac n t s n ((s + 3 - 1) % 3)) = 2000
          rw [if_neg (fun z => o3 z.2.symm), if_neg (fun z => o3 z.2.symm)]
          exact an2 _ o2
        · rw [if_neg e]; exact an2 _ o2
      have lo3 : ∀ x y, x < n → y < 3 → nb_a3 3 cs ac rg n t s x y < n → ac x y = nb_a3 3 cs ac rg n t s x y := fun x y hx _ hz => by
        rw [nb_a3_x i1 hn hx] at hz ⊢
        by_cases e : (nb_f1 3 cs ac rg n t s < 2000 ∧ x = nb_f1 3 cs ac rg n t s ∧ y = (s + 1) % 3) ∨ (x = t ∧ y = s)
        · rw [if_pos e] at hz; omega
        · rw [if_neg e]
      have J2 := jn9 (er0 := dn9 0) (m := cs ((s + 3 - 1) % 3)) W3a i1 hs o5 an3 (fun F l0 l1 z hF _ hl u1 u2 => by
        obtain ⟨b1, b2⟩ := lll o5 hl
        rw [rgx F hF, rgn, rup hF b1 b2 (up_low b1 b2 lo3 i1 u1) (up_low b2 b1 lo3 hF u2)]
        omega) (fun Bc3 => fq M C (s + 1) (n + 1) t r (Tu s (pj (T s) t n) (T3 ((s + 1) % 3)) Bc3) (fp 96 V v n) (hs3 v + 17179869184 * X) te c)
      have t3s : T3 s = pj (T s) t n := (T3n s (fun z => o1 z.symm)).trans t2s
      have t3r : T3 ((s + 3 - 1) % 3) = T ((s + 3 - 1) % 3) := (T3n _ (fun z => o3 z.symm)).trans (t2n _ o2)
      rw [t3s, t3r] at J2
      rcases J2 with e2 | ⟨T4, W4', T4n, e2, f2⟩
      · rw [e2] at hf; exact (fin9_0 hf).elim
      rw [e2] at hf
      have W4a : W3 (n + 1) T4 (nb_a4 3 cs ac rg n t s) (nb_rg rg n t) := W4'
      have f2' : nb_f2 3 cs ac rg n t s < 2000 → t < nb_f2 3 cs ac rg n t s ∧ nb_f2 3 cs ac rg n t s < n ∧ ¬ nb_a3 3 cs ac rg n t s (nb_f2 3 cs ac rg n t s) ((s + 3 - 1) % 3) < 2000 ∧ cs ((s + 3 - 1) % 3) ≠ 0 ∧ ∃ l0 l1 z, (l0 = s ∧ l1 = (s + 3 - 1) % 3 ∨ l0 = (s + 3 - 1) % 3 ∧ l1 = s) ∧ up (nb_a3 3 cs ac rg n t s) l0 l1 z (cs ((s + 3 - 1) % 3) - 1) t ∧ up (nb_a3 3 cs ac rg n t s) l1 l0 z (cs ((s + 3 - 1) % 3) - 1) (nb_f2 3 cs ac rg n t s) ∧ al l0 l1 (cs ((s + 3 - 1) % 3) - 1) = s ∧ al l1 l0 (cs ((s + 3 - 1) % 3) - 1) = (s + 3 - 1) % 3 := f2
      -- all tables are those of the last join
      have t4 : ∀ y, y < 3 → Tu s (pj (T s) t n) (T3 ((s + 1) % 3)) (T4 ((s + 3 - 1) % 3)) y = T4 y := fun y hy => by
        unfold Tu
        by_cases b1 : y = s
        · rw [if_pos b1, b1, T4n s (fun z => o2 z.symm), t3s]
        · rw [if_neg b1]
          by_cases b2 : y = (s + 1) % 3
          · rw [if_pos b2, b2, T4n _ o3]
          · rw [if_neg b2]
            have b3 : y = (s + 3 - 1) % 3 := r2_of hs hy b1 b2
            rw [b3]
      rw [fq_congr t4] at hf
      have pf1 : pg_f ac n t (nb_f1 3 cs ac rg n t s) ((s + 1) % 3) := fun z => by
        obtain ⟨q1, q2, q3, _⟩ := f1' z
        refine ⟨q1, q2, fun zz => q3 ?_⟩
        rw [nb_a2_x i1 hn q2, if_neg (fun w => o1 w.2)]
        exact zz
      have pf2 : pg_f ac n t (nb_f2 3 cs ac rg n t s) ((s + 3 - 1) % 3) := fun z => by
        obtain ⟨q1, q2, q3, _⟩ := f2' z
        refine ⟨q1, q2, fun zz => q3 ?_⟩
        rw [nb_a3_x i1 hn q2, if_neg (fun w => by
          rcases w with w | w
          · exact o3 w.2.2.symm
          · exact o2 w.2)]
        exact zz
      -- what the walks say
      have fj : ∀ (a : Nat → Nat → Nat) (F r' m : Nat), (∀ x y, x < n → y < 3 → a x y < n → ac x y = a x y) → r' < 3 → r' ≠ s → F < n → m ≠ 0 → m < 10 → m ≠ 1 → (an_m 3 cs s r' = m ∧ an_m 3 cs r' s = m) → (∃ l0 l1 z, (l0 = s ∧ l1 = r' ∨ l0 = r' ∧ l1 = s) ∧ up a l0 l1 z (m - 1) t ∧ up a l1 l0 z (m - 1) F ∧ al l0 l1 (m - 1) = s ∧ al l1 l0 (m - 1) = r') → rg F = rg t ∧ rv_e 3 (rv_w1 3 cs V1 t s) (rv_w2 3 cs V2 t s) (rv_w1 3 cs V1 F r') (rv_w2 3 cs V2 F r') := fun a F r' m hlo hr' hrs hF m0 m10 m1 ham ⟨l0, l1, z, h1, h2, h3, h4, h5⟩ => by
        obtain ⟨b1, b2⟩ := lll hr' h1
        have u1 := up_low b1 b2 hlo i1 h2
        have u2 := up_low b2 b1 hlo hF h3
        refine ⟨rup hF b1 b2 u1 u2, turn3 hVV hlt i1 hF b1 b2 (by omega) (by omega) m10 ?_ h4 h5 u1 u2⟩
        rcases h1 with ⟨x1, x2⟩ | ⟨x1, x2⟩ <;> rw [x1, x2]
        · exact ham
        · exact ⟨ham.2, ham.1⟩
      have k1 : nb_f1 3 cs ac rg n t s < 2000 → rg (nb_f1 3 cs ac rg n t s) = rg t ∧ rv_e 3 (rv_w1 3 cs V1 t s) (rv_w2 3 cs V2 t s) (rv_w1 3 cs V1 (nb_f1 3 cs ac rg n t s) ((s + 1) % 3)) (rv_w2 3 cs V2 (nb_f1 3 cs ac rg n t s) ((s + 1) % 3)) := fun z => by
        obtain ⟨_, q2, _, q4, q5⟩ := f1' z
        exact fj _ _ _ _ lo2 o4 o1 q2 q4 (hcs s hs).1 (hcs s hs).2 (an_m_1 (cs := cs) (by decide) hs) q5
      have k2 : nb_f2 3 cs ac rg n t s < 2000 → rg (nb_f2 3 cs ac rg n t s) = rg t ∧ rv_e 3 (rv_w1 3 cs V1 t s) (rv_w2 3 cs V2 t s) (rv_w1 3 cs V1 (nb_f2 3 cs ac rg n t s) ((s + 3 - 1) % 3)) (rv_w2 3 cs V2 (nb_f2 3 cs ac rg n t s) ((s + 3 - 1) % 3)) := fun z => by
        obtain ⟨_, q2, _, q4, q5⟩ := f2' z
        have am := an_m_1 (cs := cs) (p := 3) (by decide) o5
        rw [md_3 hs] at am
        exact fj _ _ _ _ lo3 o5 o2 q2 q4 (hcs _ o5).1 (hcs _ o5).2 ⟨am.2, am.1⟩ q5
      obtain ⟨p1, p2, p3, p4⟩ := pg_new (cs := cs) (by decide) i4 i1 hn hs ha j3 pf1 pf2 (fun z => (k1 z).1) (fun z => (k2 z).1) hVV (fun z => (k1 z).2) (fun z => (k2 z).2)
      obtain ⟨kl, kt⟩ := tv3_ok (cs := cs) (r := r) hs (hC s hs) (hC ((s + 2) % 3) (Nat.mod_lt _ (by decide))) (V := V1 t) hr
      have ev : tv3 (32 * s) (32 * ((s + 1) % 3)) (32 * ((s + 2) % 3)) (C s) (C ((s + 2) % 3)) r = v := by
        rw [r2_s s]; exact hv
      rw [ev] at kl kt
      have qv := fl_put0 (w := 96) kl (v2 n (Nat.le_refl n))
      obtain ⟨u, u1, u2, u3⟩ := XE_all k (s + 1) (by omega) _ _ _ _ _ _ _ _ hf (by omega) (by omega)
      refine ⟨q9_no hs hC hr hX (u := u) (by rw [hv]; exact u1) (by omega) u3, fun _ => ⟨pf1, pf2, k, T4, _, _, te, c, r, hf, ⟨by omega, by omega, by omega, p1⟩, ⟨fun x y hx hy => ?_, fun y hy => ?_, fun x hx => ?_⟩, ⟨fun x hx => ?_, fun x hx => ?_, d3, by omega, d5⟩, p4, fun x j hx hj => ?_, ⟨fun x y hx hy => ?_, fun i y hi hy => ?_⟩, ⟨fun x j hx hj => ?_, fun i hi => ?_, ?_⟩, ?_⟩⟩
      · rw [p2 x y (by omega) hy (j1 x y hx hy)]; exact j1 x y hx hy
      · by_cases b : y < s
        · rw [p2 t y i1 (by omega) (j2 y b)]; exact j2 y b
        · rw [show y = s by omega, p3]; exact hn
      · rw [rgx t i1]
        by_cases b : x = n
        · rw [b, rgn]; exact Nat.le_refl _
        · rw [rgx x (by omega)]; exact j3 x (by omega)
      · rw [rgx x (by omega)]; exact d1 x hx
      · by_cases b : x = n
        · rw [b, rgn]
          have := d1 t d3
          omega
        · rw [rgx x (by omega)]; exact d2 x (by omega)
      · unfold rv_u
        by_cases b : x = n
        · rw [if_pos b, if_pos b]
          exact ⟨tn_r_lt (by decide) _ _ _ _, tn_r_lt (by decide) _ _ _ _⟩
        · rw [if_neg b, if_neg b]
          exact hlt x j (by omega) hj
      · obtain ⟨b1, b2, _⟩ := W4a.2.2 x y hx hy
        exact ⟨b1, b2⟩
      · exact W4a.2.1 i y hi hy
      · rw [qv]
        unfold rv_u
        by_cases b : x = n
        · rw [if_pos b, if_pos b]
          exact kt j hj
        · rw [if_neg b, if_neg b]
          exact v1 x j (by omega) hj
      · rw [qv, if_neg (by omega)]
        exact v2 i (by omega)
      · rw [qv, if_neg (by omega)]
        exact v3
      · have eH : hl (fun x => hV 3 (rv_u V1 n (rv_w1 3 cs V1 t s) x)) (n + 1) = hs3 v :: hl (fun x => hV 3 (V1 x)) n := by
          show hV 3 (rv_u V1 n (rv_w1 3 cs V1 t s) n) :: hl (fun x => hV 3 (rv_u V1 n (rv_w1 3 cs V1 t s) x)) n = _
          have w1 : rv_u V1 n (rv_w1 3 cs V1 t s) n = rv_w1 3 cs V1 t s := if_pos rfl
          rw [w1, hl_congr (H := fun x => hV 3 (rv_u V1 n (rv_w1 3 cs V1 t s) x)) (H' := fun x => hV 3 (V1 x)) n (fun x hx => by
            have w2 : rv_u V1 n (rv_w1 3 cs V1 t s) x = V1 x := if_neg (by omega)
            show hV 3 (rv_u V1 n (rv_w1 3 cs V1 t s) x) = hV 3 (V1 x)
            rw [w2]), hs3_ok (v := v) (V := rv_w1 3 cs V1 t s) (fun j hj => kt j hj)]
        rw [eH, hX]
        rfl
    · rw [sd_full g3 hn] at hf
      exact ⟨q9_no hs hC hr hX (u := []) (fin9_X hf) (by rw [List.length_nil]; omega) (fun a ha => absurd ha List.not_mem_nil), fun z => absurd z hn⟩
end Q91
/-- the beginning -/
theorem run9_pg {cs M C : Nat → Nat} (hcs : ∀ j, j < 3 → cs j < 10 ∧ cs j ≠ 1) (hM : ∀ y, y < 3 → M y = cs y) (hC : ∀ y, y < 3 → C y = an_c1 (cs y)) (h : fin9 (itr9 M C (2 ^ 11) (1, 0, 0, 0, 0, 18446744078004518913, hs3 18446744078004518913, 1, 0))) : ∃ Q, pg_ok 3 cs Q := by
  obtain ⟨k', _, k2⟩ := fin9_next (fun _ => 0) rfl rfl rfl Nat.one_pos h
  have sm0 := fl_small (w := 96) (v := 18446744078004518913) (by decide)
  have q0 : fl 32 18446744078004518913 0 = 1 := by decide +kernel
  have q1 : fl 32 18446744078004518913 1 = 1 := by decide +kernel
  have q2 : fl 32 18446744078004518913 2 = 1 := by decide +kernel
  have q : ∀ j, j < 3 → (1 : Nat) = fl 32 18446744078004518913 j := fun j hj => by
    have : j = 0 ∨ j = 1 ∨ j = 2 := by omega
    rcases this with e | e | e <;> subst e
    · exact q0.symm
    · exact q1.symm
    · exact q2.symm
  refine ⟨_, Q9_ok hcs hM hC ⟨k', fun _ => 0, 18446744078004518913, hs3 18446744078004518913, 1, 0, _, k2, ⟨Nat.one_pos, by decide, Nat.zero_le _, fun x y _ _ z => absurd z (Nat.lt_irrefl 2000), fun _ _ _ _ => Nat.le_refl _⟩, ⟨fun x y hx => absurd hx (Nat.not_lt_zero x), fun y hy => absurd hy (Nat.not_lt_zero y), fun x _ => Nat.zero_le _⟩, ⟨fun x _ => Nat.zero_le _, fun x _ => Nat.zero_le _, Nat.one_pos, Nat.le_refl 1, by decide⟩, fun x y _ _ _ z => absurd z (Nat.lt_irrefl 2000), fun x j _ _ => ⟨by show 1 < an_P1; decide, by show 1 < an_P2; decide⟩, ⟨fun x y _ _ => ?_, fun i y _ _ => fl_0 _ _⟩, ⟨fun x j hx hj => ?_, fun i hi => sm0.2 i (by omega), rfl⟩, ?_⟩⟩
  · show 2000 = de (fl 12 0 x) ∧ fl 12 0 x ≤ 2000
    rw [fl_0]
    exact ⟨rfl, Nat.zero_le _⟩
  · rw [show x = 0 by omega, sm0.1]
    exact q j hj
  · show hs3 18446744078004518913 = hV 3 (fun _ => 1) + 2 ^ 34 * 0
    rw [Nat.mul_zero, Nat.add_zero]
    exact hs3_ok q
theorem ck9_pg {cs : Nat → Nat} {cl : List Nat} (hcs : ∀ j, j < 3 → cs j < 10 ∧ cs j ≠ 1) (hcl : ∀ y, y < 3 → cl.getD y 0 = cs y) (h : ck9 cl = true) : ∃ Q, pg_ok 3 cs Q := by
  unfold ck9 at h
  rw [nst_eq, nst_eq, nst_eq, nst_eq, nst_eq, nst_eq, nst_eq] at h
  refine run9_pg (M := fun y => cl.getD y 0) (C := fun y => cvt (cl.getD y 0)) hcs hcl (fun y hy => ?_) ?_
  · show cvt (cl.getD y 0) = an_c1 (cs y)
    rw [hcl y hy]
    exact cvt_eq ⟨cs y, (hcs y hy).1⟩ (hcs y hy).2
  · rw [← dbl9_eq]
    exact fin9_of _ h
