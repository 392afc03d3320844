/-! ===== closed boards: what hangs together ===== -/
/-- the tile across side s of tile x, of a draft -/
def cb_b (n : Nat) (a : List Nat) (s x : Nat) : Nat := cb_r n (a.getD s 0) x
/-- where a row of sides leads -/
def cb_go (n : Nat) (a : List Nat) (l : List Nat) (x : Nat) : Nat := l.foldl (fun x s => cb_b n a s x) x
/-- u is come to from t by sides below k -/
def cb_re (n : Nat) (a : List Nat) (k t u : Nat) : Prop := ∃ l : List Nat, (∀ s, s ∈ l → s < k) ∧ cb_go n a l t = u
/-- a draft's rows -/
def cb_ok (n k : Nat) (a : List Nat) : Prop := ∀ s, s < k → a.getD s 0 < cb_q n
section CH1
variable {n k : Nat} {a : List Nat}
theorem cb_b_lt (hn : n < 7) (ha : cb_ok n k a) {s x : Nat} (hs : s < k) (hx : x < n) : cb_b n a s x < n := (cb_r_all hn (ha s hs) hx).1
theorem cb_b_bb (hn : n < 7) (ha : cb_ok n k a) {s x : Nat} (hs : s < k) (hx : x < n) : cb_b n a s (cb_b n a s x) = x := (cb_r_all hn (ha s hs) hx).2
theorem cb_go_lt (hn : n < 7) (ha : cb_ok n k a) : ∀ (l : List Nat) (x : Nat), (∀ s, s ∈ l → s < k) → x < n → cb_go n a l x < n := by
  intro l
  induction l with
  | nil => intro x _ hx; exact hx
  | cons s l ih => intro x hl hx; exact ih _ (fun r hr => hl r (List.mem_cons_of_mem _ hr)) (cb_b_lt hn ha (hl s (List.mem_cons_self ..)) hx)
theorem cb_go_app (l m : List Nat) (x : Nat) : cb_go n a (l ++ m) x = cb_go n a m (cb_go n a l x) := List.foldl_append
theorem cb_re_refl (t : Nat) : cb_re n a k t t := ⟨[], fun s hs => absurd hs (List.not_mem_nil), rfl⟩
theorem cb_re_trans {t u w : Nat} (h : cb_re n a k t u) (h' : cb_re n a k u w) : cb_re n a k t w := by
  obtain ⟨l, hl, e⟩ := h
  obtain ⟨m, hm, e'⟩ := h'
  refine ⟨l ++ m, fun s hs => ?_, by rw [cb_go_app, e, e']⟩
  rcases List.mem_append.mp hs with q | q
  · exact hl s q
  · exact hm s q
theorem cb_re_step {s t : Nat} (hs : s < k) : cb_re n a k t (cb_b n a s t) := ⟨[s], fun r hr => by rw [List.mem_singleton.mp hr]; exact hs, rfl⟩
theorem cb_re_symm (hn : n < 7) (ha : cb_ok n k a) {t u : Nat} (ht : t < n) (h : cb_re n a k t u) : cb_re n a k u t := by
  obtain ⟨l, hl, e⟩ := h
  revert t
  induction l with
  | nil => intro t ht e; rw [show u = t from e.symm]; exact cb_re_refl t
  | cons s l ih =>
    intro t ht e
    have hs := hl s (List.mem_cons_self ..)
    have h1 := ih (fun r hr => hl r (List.mem_cons_of_mem _ hr)) (cb_b_lt hn ha hs ht) e
    refine cb_re_trans h1 ?_
    have := cb_re_step (n := n) (a := a) (t := cb_b n a s t) hs
    rw [cb_b_bb hn ha hs ht] at this
    exact this
theorem cb_re_mono {k' t u : Nat} (hk : k ≤ k') (h : cb_re n a k t u) : cb_re n a k' t u := by
  obtain ⟨l, hl, e⟩ := h
  exact ⟨l, fun s hs => Nat.lt_of_lt_of_le (hl s hs) hk, e⟩
theorem cb_re_lt (hn : n < 7) (ha : cb_ok n k a) {t u : Nat} (ht : t < n) (h : cb_re n a k t u) : u < n := by
  obtain ⟨l, hl, e⟩ := h
  rw [← e]
  exact cb_go_lt hn ha l t hl ht
/-- what depends on the first k rows alone -/
theorem cb_go_pre {j : Nat} (hk : k ≤ a.length) : ∀ (l : List Nat) (x : Nat), (∀ s, s ∈ l → s < k) → cb_go n (a ++ [j]) l x = cb_go n a l x := by
  intro l
  induction l with
  | nil => intro x _; rfl
  | cons s l ih =>
    intro x hl
    have hs := hl s (List.mem_cons_self ..)
    have e : cb_b n (a ++ [j]) s x = cb_b n a s x := by
      unfold cb_b
      rw [List.getD_eq_getElem?_getD, List.getElem?_append_left (by omega), ← List.getD_eq_getElem?_getD]
    show cb_go n (a ++ [j]) l (cb_b n (a ++ [j]) s x) = cb_go n a l (cb_b n a s x)
    rw [e]
    exact ih _ (fun r hr => hl r (List.mem_cons_of_mem _ hr))
theorem cb_re_pre {j t u : Nat} (hk : k ≤ a.length) : cb_re n (a ++ [j]) k t u ↔ cb_re n a k t u := by
  constructor
  · rintro ⟨l, hl, e⟩
    exact ⟨l, hl, by rw [← e, cb_go_pre hk l t hl]⟩
  · rintro ⟨l, hl, e⟩
    exact ⟨l, hl, by rw [← e, cb_go_pre hk l t hl]⟩
/-- groups as bits: parts; sides below k stay within, and side k of tiles below i; all within is come to -/
def cb_P (n : Nat) (a : List Nat) (k i : Nat) (g : Nat → Nat) : Prop :=
  (∀ t, t < n → g t < 2 ^ n ∧ (g t).testBit t = true) ∧ (∀ t u, t < n → u < n → (g t).testBit u = true → g u = g t) ∧ (∀ s t, s < k → t < n → g (cb_b n a s t) = g t) ∧ (∀ t, t < i → g (cb_b n a k t) = g t) ∧ ∀ t u, t < n → u < n → (g t).testBit u = true → cb_re n a (k + 1) t u
def cb_jn (g : Nat → Nat) (j : Nat) : Nat → Nat := fun u => if j.testBit u then j else g u
theorem cb_P_step {i : Nat} {g : Nat → Nat} (hn : n < 7) (ha : cb_ok n (k + 1) a) (hi : i < n) (h : cb_P n a k i g) : cb_P n a k (i + 1) (cb_jn g (g i ||| g (cb_b n a k i))) := by
  obtain ⟨h1, h2, h3, h4, h5⟩ := h
  have hw : cb_b n a k i < n := cb_b_lt hn ha (Nat.lt_succ_self k) hi
  have hb : ∀ u, (g i ||| g (cb_b n a k i)).testBit u = true ↔ (g i).testBit u = true ∨ (g (cb_b n a k i)).testBit u = true := fun u => by
    rw [Nat.testBit_or, Bool.or_eq_true]
  -- u is in the union just where its part is one of the two
  have hin : ∀ u, u < n → ((g i ||| g (cb_b n a k i)).testBit u = true ↔ g u = g i ∨ g u = g (cb_b n a k i)) := fun u hu => by
    rw [hb]
    constructor
    · rintro (q | q)
      · exact Or.inl (h2 i u hi hu q)
      · exact Or.inr (h2 _ u hw hu q)
    · rintro (q | q)
      · exact Or.inl (by rw [← q]; exact (h1 u hu).2)
      · exact Or.inr (by rw [← q]; exact (h1 u hu).2)
  have same : ∀ u w, u < n → w < n → g w = g u → cb_jn g (g i ||| g (cb_b n a k i)) w = cb_jn g (g i ||| g (cb_b n a k i)) u := fun u w hu hw' e => by
    unfold cb_jn
    by_cases q : (g i ||| g (cb_b n a k i)).testBit u = true
    · rw [if_pos q, if_pos ((hin w hw').mpr (by rw [e]; exact (hin u hu).mp q))]
    · rw [if_neg q, if_neg (fun q' => q ((hin u hu).mpr (by rw [← e]; exact (hin w hw').mp q'))), e]
  have reach : ∀ u, u < n → (g i ||| g (cb_b n a k i)).testBit u = true → cb_re n a (k + 1) i u := fun u hu q => by
    rcases (hb u).mp q with q | q
    · exact h5 i u hi hu q
    · exact cb_re_trans (cb_re_step (Nat.lt_succ_self k)) (h5 _ u hw hu q)
  refine ⟨fun t ht => ?_, fun t u ht hu q => ?_, fun s t hs ht => ?_, fun t ht => ?_, fun t u ht hu q => ?_⟩
  · unfold cb_jn
    by_cases q : (g i ||| g (cb_b n a k i)).testBit t = true
    · rw [if_pos q]
      exact ⟨Nat.or_lt_two_pow (h1 i hi).1 (h1 _ hw).1, q⟩
    · rw [if_neg q]
      exact h1 t ht
  · unfold cb_jn at q ⊢
    by_cases qt : (g i ||| g (cb_b n a k i)).testBit t = true
    · rw [if_pos qt] at q ⊢
      rw [if_pos q]
    · rw [if_neg qt] at q ⊢
      have e := h2 t u ht hu q
      rw [if_neg (fun q' => qt ((hin t ht).mpr (by rw [← e]; exact (hin u hu).mp q')))]
      exact e
  · exact same t _ ht (cb_b_lt hn ha (by omega) ht) (h3 s t hs ht)
  · by_cases e : t = i
    · subst e
      unfold cb_jn
      rw [if_pos ((hin t hi).mpr (Or.inl rfl)), if_pos ((hin _ hw).mpr (Or.inr rfl))]
    · have htn : t < n := by omega
      exact same t _ htn (cb_b_lt hn ha (Nat.lt_succ_self k) htn) (h4 t (by omega))
  · unfold cb_jn at q
    by_cases qt : (g i ||| g (cb_b n a k i)).testBit t = true
    · rw [if_pos qt] at q
      exact cb_re_trans (cb_re_symm hn ha hi (reach t ht qt)) (reach u hu q)
    · rw [if_neg qt] at q
      exact h5 t u ht hu q
/-- a level of groups: k sides -/
def cb_Q (n : Nat) (a : List Nat) (k : Nat) (g : Nat → Nat) : Prop :=
  (∀ t, t < n → g t < 2 ^ n ∧ (g t).testBit t = true) ∧ (∀ t u, t < n → u < n → (g t).testBit u = true → g u = g t) ∧ (∀ s t, s < k → t < n → g (cb_b n a s t) = g t) ∧ ∀ t u, t < n → u < n → (g t).testBit u = true → cb_re n a k t u
theorem cb_Q_P {g : Nat → Nat} (h : cb_Q n a k g) : cb_P n a k 0 g := ⟨h.1, h.2.1, h.2.2.1, fun t ht => absurd ht (Nat.not_lt_zero t), fun t u ht hu q => cb_re_mono (Nat.le_succ k) (h.2.2.2 t u ht hu q)⟩
theorem cb_P_Q {g : Nat → Nat} (h : cb_P n a k n g) : cb_Q n a (k + 1) g := ⟨h.1, h.2.1, fun s t hs ht => by
  by_cases e : s = k
  · rw [e]; exact h.2.2.2.1 t ht
  · exact h.2.2.1 s t (by omega) ht, h.2.2.2.2⟩
theorem cb_Q_re {g : Nat → Nat} (hn : n < 7) (ha : cb_ok n k a) (h : cb_Q n a k g) {t u : Nat} (ht : t < n) : cb_re n a k t u → (g t).testBit u = true := by
  rintro ⟨l, hl, e⟩
  have key : ∀ (l : List Nat) (x : Nat), (∀ s, s ∈ l → s < k) → x < n → g (cb_go n a l x) = g x := by
    intro l
    induction l with
    | nil => intro x _ _; rfl
    | cons s l ih =>
      intro x hl hx
      have hs := hl s (List.mem_cons_self ..)
      show g (cb_go n a l (cb_b n a s x)) = g x
      rw [ih _ (fun r hr => hl r (List.mem_cons_of_mem _ hr)) (cb_b_lt hn ha hs hx)]
      exact h.2.2.1 s x hs hx
  have hu : u < n := by rw [← e]; exact cb_go_lt hn ha l t hl ht
  rw [← key l t hl ht, e]
  exact (h.1 u hu).2
theorem cb_full {m : Nat} (h : m < 2 ^ n) : m = 2 ^ n - 1 ↔ ∀ u, u < n → m.testBit u = true := by
  constructor
  · intro e u hu
    rw [e, Nat.testBit_two_pow_sub_one]
    exact decide_eq_true hu
  · intro hb
    apply Nat.eq_of_testBit_eq
    intro i
    rw [Nat.testBit_two_pow_sub_one]
    by_cases hi : i < n
    · rw [hb i hi, decide_eq_true hi]
    · rw [decide_eq_false hi]
      exact Nat.testBit_lt_two_pow (Nat.lt_of_lt_of_le h (Nat.pow_le_pow_right (by decide) (by omega)))
end CH1
theorem cb_or64 : ∀ a b : Fin 64, nI a.1 ||| nI b.1 = nI (a.1 ||| b.1) := by decide +kernel
theorem cb_bit64 : ∀ a : Fin 64, ∀ o : Fin 6, ((nI a.1 >>> (nI o.1 &&& 31)) &&& 1 = 1) ↔ a.1.testBit o.1 = true := by decide +kernel
theorem cb_shl6 : ∀ t : Fin 7, (1 : Int32) <<< (nI t.1 &&& 31) = nI (2 ^ t.1) := by decide +kernel
theorem cb_pow64 {n : Nat} (hn : n < 7) : 2 ^ n ≤ 64 := (show 2 ^ n ≤ 2 ^ 6 from Nat.pow_le_pow_right (by decide) (by omega))
section CH2
variable {X : ij_R} {d n p : Nat} {b : Bool} {J : Nat → Nat → Int64} {I : Nat → Nat → Int32} {a : List Nat}
/-- the level k of groups as the class holds it: all hang together with tile 0, or parts -/
def cb_L (n : Nat) (a : List Nat) (k : Nat) (I : Nat → Nat → Int32) : Prop := (I 30 (6 * k) = nI (2 ^ n - 1) ∧ ∀ u, u < n → cb_re n a k 0 u) ∨ ∃ g, (∀ t, t < n → I 30 (6 * k + t) = nI (g t)) ∧ cb_Q n a k g
theorem lx_groupOf {k t : Nat} (hk : k ≤ 8) (ht : t < 6) : lk_cx1 X (d + 2) 24 [.ref 28, .int (nI k), .int (nI t)] (xk_R b, I, J) (some (.int (I 30 (6 * k + t)))) (xk_R b, I, J) := by
  have q := xp_X1_valueAt_30_0_2 (C := ik_cr xk_P xk_M xk_Y xk_K X d) (b := b) I J (nI (6 * k + t)) (nI_pos (by omega)) (by decide) (nI_ge (b := 54) (by omega) (by decide)) (vp_in_nI (by omega) (by decide))
  rw [nI_clamp (by omega)] at q
  have q2 := xp_X1_groupOf_0_0 (C := ik_cr xk_P xk_M xk_Y xk_K X (d + 1)) (v := some (.int (I 30 (6 * k + t)))) (τ := (xk_R b, I, J)) (b := b) (b' := b) (I' := I) (J' := J) I J (nI k) (nI t) (I 30 (6 * k + t))
  rw [cb_6] at q2
  exact ik_cr_of (Nat.le_of_ble_eq_true rfl) (q2 (ik_cr_of (Nat.le_of_ble_eq_true rfl) q) (xp_X1_groupOf_13_0 I J _))
theorem lx_setGroup {k t : Nat} {x : Int32} (hk : k ≤ 8) (ht : t < 6) : lk_cx1 X (d + 1) 25 [.ref 28, .int (nI k), .int (nI t), .int x] (xk_R b, I, J) none (xk_R b, ij_u I 30 (6 * k + t) x, J) := by
  have q := xp_X1_setGroup_0_2 (C := ik_cr xk_P xk_M xk_Y xk_K X d) (b := b) I J (nI k) (nI t) x
  rw [cb_6, nI_clamp (by omega)] at q
  exact ik_cr_of (Nat.le_of_ble_eq_true rfl) (q (nI_pos (by omega)) (by decide) (nI_ge (b := 54) (by omega) (by decide)) (vp_in_nI (by omega) (by decide)))
/-- the rows of a draft, as the class holds them -/
def cb_ch (a : List Nat) (I : Nat → Nat → Int32) : Prop := ∀ k, k < a.length → I 29 k = nI (a.getD k 0)
theorem lx_rowOf {s : Nat} (hs8 : s < 8) (h : cb_ch a I) (hs : s < a.length) : lk_cx1 X (d + 2) 11 [.ref 28, .int (nI s)] (xk_R b, I, J) (some (.int (nI (a.getD s 0)))) (xk_R b, I, J) := by
  have q := xp_X1_valueAt_29_0_2 (C := ik_cr xk_P xk_M xk_Y xk_K X d) (b := b) I J (nI s) (nI_pos (by omega)) (by decide) (nI_ge (b := 8) hs8 (by decide)) (vp_in_nI hs8 (by decide))
  rw [nI_clamp (by omega), h s hs] at q
  exact ik_cr_of (Nat.le_of_ble_eq_true rfl) (xp_X1_rowOf_0_0 I J (nI s) _ (ik_cr_of (Nat.le_of_ble_eq_true rfl) q) (xp_X1_rowOf_8_0 I J _))
theorem lx_across {s x : Nat} (hn : n < 7) (hs8 : s < 8) (hx : cb_xn n I) (h : cb_ch a I) (hs : s < a.length) (ha : a.getD s 0 < cb_q n) (hxn : x < n) : lk_cx1 X (d + 2) 12 [.ref 28, .int (nI s), .int (nI x)] (xk_R b, I, J) (some (.int (nI (cb_b n a s x)))) (xk_R b, I, J) := by
  have q := xp_X1_valueAt_29_0_2 (C := ik_cr xk_P xk_M xk_Y xk_K X d) (b := b) I J (nI s) (nI_pos (by omega)) (by decide) (nI_ge (b := 8) hs8 (by decide)) (vp_in_nI hs8 (by decide))
  rw [nI_clamp (by omega), h s hs] at q
  exact ik_cr_of (Nat.le_of_ble_eq_true rfl) (xp_X1_lyingAcross_0_0 I J (nI s) (nI x) _ (ik_cr_of (Nat.le_of_ble_eq_true rfl) q) (xp_X1_lyingAcross_12_0 I J (nI x) _ _ (lx_numberAt hn hx ha hxn) (xp_X1_lyingAcross_16_0 I J _)))
end CH2
