/-! ===== closed boards: tries, counted ahead ===== -/
def cb_ek (n : Nat) (cs : Nat → Nat) : Nat → Nat → Nat
  | 0, _ => 1
  | s + 1, j => sm (fun i => if cb_okb n (cs s) i j then cb_ek n cs s i else 0) (cb_q n)
def cb_ds (n : Nat) (cs : Nat → Nat) (s : Nat) : Nat := sm (cb_ek n cs s) (cb_q n)
/-- tries of the first s sides -/
def cb_T2 (n : Nat) (cs : Nat → Nat) : Nat → Nat
  | 0 => 0
  | 1 => cb_q n
  | s + 2 => cb_T2 n cs (s + 1) + cb_ds n cs s * cb_q n
theorem sm_bound {f : Nat → Nat} {B : Nat} : ∀ {n : Nat}, (∀ i, i < n → f i ≤ B) → sm f n ≤ n * B := by
  intro n
  induction n with
  | zero => intro _; show 0 ≤ _; omega
  | succ n ih =>
    intro h
    have h1 := ih (fun i hi => h i (by omega))
    have h2 := h n (by omega)
    show sm f n + f n ≤ _
    rw [Nat.succ_mul]
    omega
theorem cb_ek_le {n : Nat} {cs : Nat → Nat} (hn : n < 7) : ∀ (s j : Nat), cb_ek n cs s j ≤ 76 ^ s := by
  have q76 := cb_qs n hn
  intro s
  induction s with
  | zero => intro j; exact Nat.le_refl 1
  | succ s ih =>
    intro j
    have := sm_bound (f := fun i => if cb_okb n (cs s) i j then cb_ek n cs s i else 0) (B := 76 ^ s) (n := cb_q n) (fun i _ => by
      by_cases e : cb_okb n (cs s) i j = true
      · rw [if_pos e]; exact ih i
      · rw [if_neg e]; exact Nat.zero_le _)
    have h2 : cb_q n * 76 ^ s ≤ 76 * 76 ^ s := Nat.mul_le_mul_right _ q76
    rw [Nat.pow_succ, Nat.mul_comm]
    exact Nat.le_trans this h2
theorem cb_ds_le {n : Nat} {cs : Nat → Nat} (hn : n < 7) (s : Nat) : cb_ds n cs s ≤ 76 ^ (s + 1) := by
  have q76 := cb_qs n hn
  have := sm_bound (f := cb_ek n cs s) (B := 76 ^ s) (n := cb_q n) (fun i _ => cb_ek_le hn s i)
  have h2 : cb_q n * 76 ^ s ≤ 76 * 76 ^ s := Nat.mul_le_mul_right _ q76
  rw [Nat.pow_succ, Nat.mul_comm]
  exact Nat.le_trans this h2
theorem cb_ds0 (n : Nat) (cs : Nat → Nat) : cb_ds n cs 0 = cb_q n := sm_one (cb_q n)
/-- subtrees -/
def cb_tl (n : Nat) (cs : Nat → Nat) : Nat → Nat → Nat → Nat
  | 0, _, _ => 0
  | 1, _, _ => cb_q n
  | r + 2, s, i => cb_q n + sm (fun j => if cb_okb n (cs (s - 1)) i j then cb_tl n cs (r + 1) (s + 1) j else 0) (cb_q n)
theorem cb_sum_sm (f : Nat → Nat) : ∀ n, ((List.range n).map f).sum = sm f n := by
  intro n
  induction n with
  | zero => rfl
  | succ n ih =>
    rw [List.range_succ, List.map_append, List.sum_append, ih]
    show sm f n + (f n + 0) = sm f n + f n
    rfl
theorem cb_last (a : List Nat) (j : Nat) : (a ++ [j]).getD ((a ++ [j]).length - 1) 0 = j := by
  have hl : (a ++ [j]).length - 1 = a.length := by rw [List.length_append]; rfl
  rw [hl, List.getD_eq_getElem?_getD, List.getElem?_append_right (Nat.le_refl _), Nat.sub_self]
  rfl
theorem cb_try_tl {n p : Nat} {cs : Nat → Nat} : ∀ (r : Nat) (a : List Nat), a.length + r = p → a ≠ [] → cb_try n p cs r a = cb_tl n cs r a.length (a.getD (a.length - 1) 0) := by
  intro r
  induction r with
  | zero => intro a _ _; rfl
  | succ r ih =>
    intro a ha hne
    have hl0 : a.length ≠ 0 := fun e => hne (List.length_eq_zero_iff.mp e)
    show ((List.range (cb_q n)).map _).sum = _
    rw [cb_sum_sm, sm_add, sm_one]
    cases r with
    | zero =>
      show cb_q n + sm (fun j => if cb_st n p cs a j then 0 else 0) (cb_q n) = cb_q n
      rw [show (fun j => if cb_st n p cs a j then 0 else 0) = (fun _ => 0) from funext (fun j => by by_cases e : cb_st n p cs a j = true <;> simp [e]), sm_zero]
      rfl
    | succ r =>
      show _ = cb_q n + sm _ (cb_q n)
      congr 1
      refine sm_congr (fun j _ => ?_)
      have hiff : cb_st n p cs a j = cb_okb n (cs (a.length - 1)) (a.getD (a.length - 1) 0) j := by
        apply Bool.eq_iff_iff.mpr
        rw [cb_st_iff]
        exact ⟨fun h => h.1.resolve_left hl0, fun h => ⟨Or.inr h, fun e => by omega⟩⟩
      rw [hiff]
      by_cases e : cb_okb n (cs (a.length - 1)) (a.getD (a.length - 1) 0) j = true
      · rw [if_pos e, if_pos e, ih (a ++ [j]) (by rw [List.length_append]; show a.length + 1 + (r + 1) = p; omega) (by simp), cb_last, List.length_append]
        rfl
      · rw [if_neg e, if_neg e]
theorem cb_T2_tl {n p : Nat} {cs : Nat → Nat} : ∀ (r s : Nat), s + 1 + r = p → cb_T2 n cs (s + 1) + sm (fun i => cb_ek n cs s i * cb_tl n cs r (s + 1) i) (cb_q n) = cb_T2 n cs p := by
  intro r
  induction r with
  | zero =>
    intro s hs
    have : s + 1 = p := hs
    subst this
    show cb_T2 n cs (s + 1) + sm (fun i => cb_ek n cs s i * 0) (cb_q n) = _
    rw [show (fun i => cb_ek n cs s i * 0) = (fun _ => 0) from rfl, sm_zero, Nat.add_zero]
  | succ r ih =>
    intro s hs
    rw [← ih (s + 1) (by omega)]
    show _ = cb_T2 n cs (s + 1) + cb_ds n cs s * cb_q n + _
    rw [Nat.add_assoc]
    congr 1
    cases r with
    | zero =>
      show sm (fun i => cb_ek n cs s i * cb_q n) (cb_q n) = cb_ds n cs s * cb_q n + sm (fun i => cb_ek n cs (s + 1) i * 0) (cb_q n)
      rw [sm_mul, show (fun i => cb_ek n cs (s + 1) i * 0) = (fun _ => 0) from rfl, sm_zero, Nat.add_zero]
      rfl
    | succ r =>
      show sm (fun i => cb_ek n cs s i * (cb_q n + sm (fun j => if cb_okb n (cs s) i j then cb_tl n cs (r + 1) (s + 1 + 1) j else 0) (cb_q n))) (cb_q n) = cb_ds n cs s * cb_q n + sm (fun j => sm (fun i => if cb_okb n (cs s) i j then cb_ek n cs s i else 0) (cb_q n) * cb_tl n cs (r + 1) (s + 1 + 1) j) (cb_q n)
      rw [show (fun i => cb_ek n cs s i * (cb_q n + sm (fun j => if cb_okb n (cs s) i j then cb_tl n cs (r + 1) (s + 1 + 1) j else 0) (cb_q n))) = (fun i => cb_ek n cs s i * cb_q n + sm (fun j => (if cb_okb n (cs s) i j then cb_ek n cs s i else 0) * cb_tl n cs (r + 1) (s + 1 + 1) j) (cb_q n)) from funext (fun i => by
        rw [Nat.mul_add]
        congr 1
        rw [Nat.mul_comm, ← sm_mul]
        refine sm_congr (fun j _ => ?_)
        by_cases e : cb_okb n (cs s) i j = true
        · rw [if_pos e, if_pos e, Nat.mul_comm]
        · rw [if_neg e, if_neg e, Nat.zero_mul, Nat.zero_mul]), sm_add, sm_mul]
      congr 1
      rw [sm_swap]
      exact sm_congr (fun j _ => sm_mul _ _)
theorem cb_try_T2 {n p : Nat} {cs : Nat → Nat} (hp : 3 ≤ p) : cb_try n p cs p [] = cb_T2 n cs p := by
  obtain ⟨m, rfl⟩ : ∃ m, p = m + 1 := ⟨p - 1, by omega⟩
  rw [← cb_T2_tl (n := n) (cs := cs) m 0 (by omega)]
  show ((List.range (cb_q n)).map _).sum = _
  rw [cb_sum_sm, sm_add, sm_one]
  show cb_q n + _ = cb_q n + _
  congr 1
  refine sm_congr (fun j _ => ?_)
  have st : cb_st n (m + 1) cs [] j = true := cb_st_iff.mpr ⟨Or.inl rfl, fun e => by have : 0 + 1 = m + 1 := e; omega⟩
  rw [if_pos st, cb_try_tl m ([] ++ [j]) (by show 1 + m = m + 1; omega) (by simp), cb_last]
  show _ = 1 * _
  rw [Nat.one_mul]
  rfl
/-! the class's test of two rows -/
theorem cb_and1 : ∀ a : Fin 128, ∀ l : Fin 7, ∀ c : Fin 10, 1 ≤ l.1 → c.1 ≠ 1 → ((nI (a.1 ||| 2 ^ l.1) &&& xw_f (nI c.1) = 0) ↔ (nI a.1 &&& xw_f (nI c.1) = 0 ∧ (c.1 = 0 ∨ c.1 % l.1 = 0))) := by decide +kernel
theorem cb_and0 : ∀ c : Fin 10, nI 0 &&& xw_f (nI c.1) = 0 := by decide +kernel
theorem cb_forb {n c i j : Nat} (hn : n < 7) (hc : c < 10) (hc1 : c ≠ 1) (hi : i < cb_q n) (hj : j < cb_q n) : (nI (cb_ls n i j n) &&& xw_f (nI c) = 0) ↔ cb_okb n c i j = true := by
  have key : ∀ k, k ≤ n → ((nI (cb_ls n i j k) &&& xw_f (nI c) = 0) ↔ ∀ x, x < k → (c = 0 ∨ c % cb_lap n i j x = 0)) := by
    intro k
    induction k with
    | zero => intro _; exact ⟨fun _ x hx => absurd hx (Nat.not_lt_zero x), fun _ => cb_and0 ⟨c, hc⟩⟩
    | succ k ih =>
      intro hk
      have ll := cb_lap_le hn hi hj (x := k) (by omega)
      have h := cb_and1 ⟨cb_ls n i j k, cb_ls_lt hn hi hj k (by omega)⟩ ⟨cb_lap n i j k, by omega⟩ ⟨c, hc⟩ ll.1 hc1
      refine h.trans ?_
      rw [ih (by omega)]
      constructor
      · rintro ⟨h1, h2⟩ x hx
        by_cases e : x = k
        · rw [e]; exact h2
        · exact h1 x (by omega)
      · exact fun h => ⟨fun x hx => h x (by omega), h k (by omega)⟩
  rw [key n (Nat.le_refl n)]
  unfold cb_okb
  rw [Bool.or_eq_true, beq_iff_eq, List.all_eq_true]
  constructor
  · intro h
    by_cases e : c = 0
    · exact Or.inl e
    · exact Or.inr (fun x hx => beq_iff_eq.mpr ((h x (List.mem_range.mp hx)).resolve_left e))
  · rintro (e | h) x hx
    · exact Or.inl e
    · exact Or.inr (beq_iff_eq.mp (h x (List.mem_range.mpr hx)))
theorem lg_le {a c : Nat} (ha : a < 2 ^ 63) (hc : c < 2 ^ 63) : lg_cmp (lN a) (lN c) ≤ 0 ↔ a ≤ c := by
  unfold lg_cmp
  by_cases h : lN a > lN c
  · rw [if_pos h]
    have := (pk_lLT (a := c) (b := a) hc ha).mp h
    exact ⟨fun q => absurd q (by decide), fun q => by omega⟩
  · rw [if_neg h]
    have h' : ¬ c < a := fun q => h ((pk_lLT hc ha).mpr q)
    refine ⟨fun _ => by omega, fun _ => ?_⟩
    by_cases e : lN a = lN c
    · rw [if_pos e]; decide
    · rw [if_neg e]; decide
section CB5
variable {d n p : Nat} {b : Bool} {I : Nat → Nat → Int32} {cs : Nat → Nat}
/-- what the class's search needs to know -/
def cb_xx (n p : Nat) (cs : Nat → Nat) (I : Nat → Nat → Int32) : Prop := cb_xl n I ∧ I 6 8 = nI p ∧ ∀ j, j < p → I 7 j = nI (cs j)
theorem lx_lapsOf {J : Nat → Nat → Int64} {X : ij_R} {i j : Nat} (hn : n < 7) (h : cb_xl n I) (hi : i < cb_q n) (hj : j < cb_q n) : lk_cx1 X (d + 1) 70 [.ref 23, .int (nI i), .int (nI j)] (xk_R b, I, J) (some (.int (nI (cb_ls n i j n)))) (xk_R b, I, J) := by
  have q76 := cb_qs n hn
  have q := xp_X4_lapsOf_0_4 (C := ik_cr xk_P xk_M xk_Y xk_K X d) (b := b) I J (nI i) (nI j) (nI_pos (by omega)) (nI_pos (by omega)) (nI_ge (b := 76) (by omega) (by decide)) (by decide)
  rw [cb_76, nI_clamp (by omega), h.2.2 i hi j hj] at q
  exact ik_cr_of (Nat.le_of_ble_eq_true rfl) (q (nI_ge (b := 5776) (by omega) (by decide)) (vp_in_nI (by omega) (by decide)))
theorem lx_forbid {J : Nat → Nat → Int64} (c : Int32) : lk_cx1 xw_X (d + 1) 13 [.int c] (xk_R b, I, J) (some (.int (xw_f c))) (xk_R b, I, J) := Or.inl (Or.inl ⟨rfl, c, rfl, rfl, rfl⟩)
theorem lx_cornerB {J : Nat → Nat → Int64} {X : ij_R} {j : Nat} (hp : p ≤ 8) (h : ∀ j, j < p → I 7 j = nI (cs j)) (hj : j < p) : lk_cx1 X (d + 1) 31 [.ref 6, .int (nI j)] (xk_R b, I, J) (some (.int (nI (cs j)))) (xk_R b, I, J) := by
  have q := xp_X2_cornerBehind_0_2 (C := ik_cr xk_P xk_M xk_Y xk_K X d) (b := b) I J (nI j) (nI_pos (by omega)) (by decide) (nI_ge (b := 8) (by omega) (by decide)) (vp_in_nI (by omega) (by decide))
  rw [nI_clamp (by omega), h j hj] at q
  exact ik_cr_of (Nat.le_of_ble_eq_true rfl) q
theorem lx_dw38 {c j : Nat} {z : Int64} {e : Nat → Nat} {J : Nat → Nat → Int64} (hn : n < 7) (h : cb_xl n I) (hc : c < 10) (hc1 : c ≠ 1) (hj : j < cb_q n) (hJ : ∀ i, i < cb_q n → J 34 i = lN (e i)) {v : Option Value} {τ : ij_S} (hg : xk_go (ik_cr xk_P xk_M xk_Y xk_K xw_X (d + 1)) 85 (10, [some (.ref 22), none, some (.int (xw_f (nI c))), some (.long (z + lN (sm (fun i => if cb_okb n c i j then e i else 0) (cb_q n)))), none, some (.int (nI (j + 1))), none, none, none], [], (xk_R b, I, ij_u J 35 j (lN (sm (fun i => if cb_okb n c i j then e i else 0) (cb_q n))))) v τ) : ∀ (r i : Nat), i + r = cb_q n → xk_go (ik_cr xk_P xk_M xk_Y xk_K xw_X (d + 1)) 85 (38, [some (.ref 22), none, some (.int (xw_f (nI c))), some (.long z), none, some (.int (nI j)), some (.long (lN (sm (fun i => if cb_okb n c i j then e i else 0) i))), none, some (.int (nI i))], [], (xk_R b, I, J)) v τ := by
  have q76 := cb_qs n hn
  intro r
  induction r with
  | zero =>
    intro i hi
    have : i = cb_q n := by omega
    subst this
    have q := xp_X5_draftsWith_38_0 (C := ik_cr xk_P xk_M xk_Y xk_K xw_X (d + 1)) (v := v) (τ := τ) (b := b) I J (xw_f (nI c)) (nI j) (nI (cb_q n)) z (lN (sm (fun i => if cb_okb n c i j then e i else 0) (cb_q n))) (by rw [h.1.2.1]; exact nI_le (Nat.le_refl _) (by omega)) (vp_in_nI (by omega) (by decide))
    rw [nI_clamp (by omega), nI_1] at q
    exact q hg
  | succ r ih =>
    intro i hi
    have k := ih (i + 1) (by omega)
    refine xp_X5_draftsWith_38_2 I J _ _ _ _ _ _ (by rw [h.1.2.1]; exact nI_ge (by omega) (by omega)) (by decide) (nI_ge (b := 76) (by omega) (by decide)) (lx_lapsOf (d := d) hn h (by omega) hj) ?_
    by_cases ok : cb_okb n c i j = true
    · have q := xp_X5_draftsWith_71_1 (C := ik_cr xk_P xk_M xk_Y xk_K xw_X (d + 1)) (v := v) (τ := τ) (b := b) I J (xw_f (nI c)) (nI j) (nI i) (nI (cb_ls n i j n)) z (lN (sm (fun i => if cb_okb n c i j then e i else 0) i)) ((cb_forb hn hc hc1 (by omega) hj).mpr ok) (vp_in_nI (by omega) (by decide))
      rw [nI_clamp (by omega), hJ i (by omega), lN_add, nI_1] at q
      refine q ?_
      have es : sm (fun i => if cb_okb n c i j then e i else 0) (i + 1) = sm (fun i => if cb_okb n c i j then e i else 0) i + e i := by
        show _ + (if cb_okb n c i j then e i else 0) = _
        rw [if_pos ok]
      rw [es] at k
      exact k
    · refine xp_X5_draftsWith_71_0 I J _ _ _ _ _ _ (fun q => ok ((cb_forb hn hc hc1 (by omega) hj).mp q)) ?_
      have es : sm (fun i => if cb_okb n c i j then e i else 0) (i + 1) = sm (fun i => if cb_okb n c i j then e i else 0) i := by
        show _ + (if cb_okb n c i j then e i else 0) = _
        rw [if_neg ok]
        rfl
      rw [es, ← nI_1] at k
      exact k
theorem lx_dw10 {c : Nat} {e : Nat → Nat} (hn : n < 7) (h : cb_xl n I) (hc : c < 10) (hc1 : c ≠ 1) : ∀ (r j : Nat) (J : Nat → Nat → Int64), j + r = cb_q n → (∀ i, i < cb_q n → J 34 i = lN (e i)) → (∀ i, i < j → J 35 i = lN (sm (fun k => if cb_okb n c k i then e k else 0) (cb_q n))) → ∃ J' : Nat → Nat → Int64, xk_go (ik_cr xk_P xk_M xk_Y xk_K xw_X (d + 1)) 85 (10, [some (.ref 22), none, some (.int (xw_f (nI c))), some (.long (lN (sm (fun j => sm (fun k => if cb_okb n c k j then e k else 0) (cb_q n)) j))), none, some (.int (nI j)), none, none, none], [], (xk_R b, I, J)) (some (.long (lN (sm (fun j => sm (fun k => if cb_okb n c k j then e k else 0) (cb_q n)) (cb_q n))))) (xk_R b, I, J') ∧ (∀ i, i < cb_q n → J' 34 i = lN (sm (fun k => if cb_okb n c k i then e k else 0) (cb_q n))) ∧ ∀ q, q ≠ 34 → q ≠ 35 → J' q = J q := by
  have q76 := cb_qs n hn
  intro r
  induction r with
  | zero =>
    intro j J hj hJ hK
    have : j = cb_q n := by omega
    subst this
    refine ⟨ik_uA J 34 (va_cpy (J 35) (J 34) 0 0 76), xp_X5_draftsWith_10_0 I J _ _ _ (by rw [h.1.2.1]; exact nI_le (Nat.le_refl _) (by omega)) (by decide) (by decide) (by decide) (by decide) (by decide) (by decide) (xp_X5_draftsWith_129_0 I _ _), fun i hi => ?_, fun q h1 _ => ?_⟩
    · show va_cpy (J 35) (J 34) 0 0 76 i = _
      unfold va_cpy
      rw [if_pos ⟨Nat.zero_le i, by omega⟩, Nat.zero_add, Nat.sub_zero]
      exact hK i hi
    · funext k
      show (if q = 34 then _ else J q k) = J q k
      rw [if_neg h1]
  | succ r ih =>
    intro j J hj hJ hK
    obtain ⟨J', g1, g2, g3⟩ := ih (j + 1) (ij_u J 35 j (lN (sm (fun k => if cb_okb n c k j then e k else 0) (cb_q n)))) (by omega) (fun i hi => hJ i hi) (fun i hi => by
      by_cases ei : i = j
      · subst ei; exact ij_u_same _ _ _ _
      · rw [ij_u_other _ _ _ _ ei]; exact hK i (by omega))
    refine ⟨J', ?_, g2, fun q h1 h2 => (g3 q h1 h2).trans (ij_u_ne h2)⟩
    refine xp_X5_draftsWith_10_2 I J _ _ _ (by rw [h.1.2.1]; exact nI_ge (by omega) (by omega)) (by decide) (nI_ge (b := 76) (by omega) (by decide)) ?_
    refine lx_dw38 (d := d) hn h hc hc1 (by omega) hJ ?_ (cb_q n) 0 (Nat.zero_add _)
    rw [lN_add]
    exact g1
theorem lx_draftsWith {c : Nat} {e : Nat → Nat} (hn : n < 7) (h : cb_xl n I) (hc : c < 10) (hc1 : c ≠ 1) (J : Nat → Nat → Int64) (hJ : ∀ i, i < cb_q n → J 34 i = lN (e i)) : ∃ J' : Nat → Nat → Int64, lk_cx1 xw_X (d + 2) 85 [.ref 22, .int (nI c)] (xk_R b, I, J) (some (.long (lN (sm (fun j => sm (fun k => if cb_okb n c k j then e k else 0) (cb_q n)) (cb_q n))))) (xk_R b, I, J') ∧ (∀ i, i < cb_q n → J' 34 i = lN (sm (fun k => if cb_okb n c k i then e k else 0) (cb_q n))) ∧ ∀ q, q ≠ 34 → q ≠ 35 → J' q = J q := by
  obtain ⟨J', g1, g2, g3⟩ := lx_dw10 (d := d) (b := b) (e := e) hn h hc hc1 (cb_q n) 0 J (Nat.zero_add _) hJ (fun i hi => absurd hi (Nat.not_lt_zero i))
  exact ⟨J', ik_cr_of (Nat.le_of_ble_eq_true rfl) (xp_X5_draftsWith_0_0 I J (nI c) _ (lx_forbid (nI c)) (xp_X5_draftsWith_4_0 I J _ g1)), g2, g3⟩
theorem lx_rt15 (hn : n < 7) (hp3 : 3 ≤ p) (hp : p ≤ 8) (hcs : ∀ j, j < p → cs j < 10 ∧ cs j ≠ 1) (h : cb_xx n p cs I) : ∀ (r s : Nat) (J : Nat → Nat → Int64), s + 1 + r = p → (∀ i, i < cb_q n → J 34 i = lN (cb_ek n cs s i)) → cb_T2 n cs (s + 1) ≤ 300000 → ∃ J' : Nat → Nat → Int64, xk_go (ik_cr xk_P xk_M xk_Y xk_K xw_X (d + 2)) 84 (15, [some (.ref 22), some (.long (lN (cb_ds n cs s))), none, some (.long (lN (cb_T2 n cs (s + 1)))), none, some (.int (nI (s + 1)))], [], (xk_R b, I, J)) (some (.int (nI (if cb_T2 n cs p ≤ 300000 then cb_T2 n cs p else 300001)))) (xk_R b, I, J') ∧ ∀ q, q ≠ 34 → q ≠ 35 → J' q = J q := by
  have q76 := cb_qs n hn
  obtain ⟨hl, h8, h7⟩ := h
  intro r
  induction r with
  | zero =>
    intro s J hs hJ hT
    have : s + 1 = p := hs
    subst this
    refine ⟨J, ?_, fun _ _ _ => rfl⟩
    rw [if_pos hT]
    have q := xp_X5_reckonTries_15_0 (C := ik_cr xk_P xk_M xk_Y xk_K xw_X (d + 2)) (b := b) I J (nI (s + 1)) (lN (cb_ds n cs s)) (lN (cb_T2 n cs (s + 1))) (by rw [h8]; exact nI_le (Nat.le_refl _) (by omega))
    rw [show (lN (cb_T2 n cs (s + 1))).toInt32 = nI (cb_T2 n cs (s + 1)) from by rw [← nI_l (by omega), Int32.toInt32_toInt64]] at q
    exact q
  | succ r ih =>
    intro s J hs hJ hT
    have hds := cb_ds_le (cs := cs) hn s
    have hs7 : 76 ^ (s + 1) ≤ 76 ^ 7 := Nat.pow_le_pow_right (by decide) (by omega)
    have hmul : cb_ds n cs s * cb_q n ≤ 76 ^ 7 * 76 := Nat.mul_le_mul (Nat.le_trans hds hs7) q76
    have hb63 : cb_T2 n cs (s + 2) < 2 ^ 63 := by
      show cb_T2 n cs (s + 1) + cb_ds n cs s * cb_q n < 2 ^ 63
      have : (76 : Nat) ^ 7 * 76 < 2 ^ 62 := by decide
      omega
    have e3 : lN (cb_T2 n cs (s + 1)) + lN (cb_ds n cs s) * (I 23 5).toInt64 = lN (cb_T2 n cs (s + 2)) := by
      rw [hl.1.2.1, nI_l (by omega), lN_mul, lN_add]
      rfl
    have hge : ¬ I 6 8 ≤ nI (s + 1) := by rw [h8]; exact nI_ge (by omega) (by omega)
    by_cases hle : cb_T2 n cs (s + 2) ≤ 300000
    · obtain ⟨J1, g1, g2, g3⟩ := lx_draftsWith (d := d) (b := b) (e := cb_ek n cs s) hn hl (hcs s (by omega)).1 (hcs s (by omega)).2 J hJ
      obtain ⟨J', k1, k2⟩ := ih (s + 1) J1 (by omega) g2 hle
      refine ⟨J', ?_, fun q h1 h2 => (k2 q h1 h2).trans (g3 q h1 h2)⟩
      have q := xp_X5_reckonTries_15_1 (C := ik_cr xk_P xk_M xk_Y xk_K xw_X (d + 2)) (v := some (.int (nI (if cb_T2 n cs p ≤ 300000 then cb_T2 n cs p else 300001)))) (τ := (xk_R b, I, J')) (b := b) (b' := b) (I' := I) (J' := J) I J (nI (s + 1)) (lN (cb_ds n cs s)) (lN (cb_T2 n cs (s + 1))) (nI (cs s)) hge
      rw [e3, nI_sub1 (by omega), show s + 1 - 1 = s from rfl] at q
      refine q ((lg_le hb63 (by decide)).mpr hle) (nI_ne0 (by omega) (by omega)) (lx_cornerB (d := d + 1) hp h7 (by omega)) (xp_X5_reckonTries_79_0 I J _ _ _ _ g1 (xp_X5_reckonTries_82_0 I J1 _ _ _ ?_))
      rw [nI_1]
      exact k1
    · have hpgt : ¬ cb_T2 n cs p ≤ 300000 := by
        have mono : ∀ m k, m ≤ k → cb_T2 n cs (m + 1) ≤ cb_T2 n cs (k + 1) := by
          intro m k hmk
          induction k with
          | zero =>
            have : m = 0 := by omega
            subst this; exact Nat.le_refl _
          | succ k ihk =>
            by_cases e : m = k + 1
            · rw [e]; exact Nat.le_refl _
            · have := ihk (by omega)
              show _ ≤ cb_T2 n cs (k + 1) + _
              omega
        have := mono (s + 1) (p - 1) (by omega)
        rw [show p - 1 + 1 = p by omega] at this
        have : cb_T2 n cs (s + 2) ≤ cb_T2 n cs p := this
        omega
      rw [if_neg hpgt]
      refine ⟨J, ?_, fun _ _ _ => rfl⟩
      have q := xp_X5_reckonTries_15_3 (C := ik_cr xk_P xk_M xk_Y xk_K xw_X (d + 2)) (b := b) I J (nI (s + 1)) (lN (cb_ds n cs s)) (lN (cb_T2 n cs (s + 1))) hge
      rw [e3] at q
      exact q (fun q => hle ((lg_le hb63 (by decide)).mp q))
theorem lx_fill34 {C : ij_R} : ∀ (r k : Nat) (J : Nat → Nat → Int64), k + r = 76 → ∃ J' : Nat → Nat → Int64, xk_go C 151 (6, [some (.ref 34), some (.long 1), none, some (.int (nI k)), some (.int 76)], [], (xk_R b, I, J)) none (xk_R b, I, J') ∧ (∀ i, k ≤ i → i < 76 → J' 34 i = 1) ∧ (∀ i, i < k → J' 34 i = J 34 i) ∧ ∀ q, q ≠ 34 → J' q = J q := by
  intro r
  induction r with
  | zero =>
    intro k J hk
    have : k = 76 := by omega
    subst this
    exact ⟨J, xp_J7_fill_d0a16_34_6_0 I J 76 76 1 (by decide), fun i h1 h2 => by omega, fun _ _ => rfl, fun _ _ => rfl⟩
  | succ r ih =>
    intro k J hk
    obtain ⟨J', g1, g2, g3, g4⟩ := ih (k + 1) (ij_u J 34 k 1) (by omega)
    refine ⟨J', ?_, fun i h1 h2 => ?_, fun i hi => ?_, fun q hq => (g4 q hq).trans (ij_u_ne hq)⟩
    · have q := xp_J7_fill_d0a16_34_6_1 (C := C) (v := none) (τ := (xk_R b, I, J')) (b := b) I J (nI k) 76 1 (nI_ge (b := 76) (by omega) (by decide)) (vp_in_nI (by omega) (by decide))
      rw [nI_clamp (by omega), nI_1] at q
      exact q g1
    · by_cases e : i = k
      · subst e
        rw [g3 i (by omega), ij_u_same]
      · exact g2 i (by omega) h2
    · rw [g3 i (by omega), ij_u_other _ _ _ _ (by omega)]
theorem lx_reckonT (hn1 : 1 ≤ n) (hn : n < 7) (hp3 : 3 ≤ p) (hp : p ≤ 8) (hcs : ∀ j, j < p → cs j < 10 ∧ cs j ≠ 1) (h : cb_xx n p cs I) (J : Nat → Nat → Int64) : ∃ J' : Nat → Nat → Int64, lk_cx1 xw_X (d + 3) 84 [.ref 22] (xk_R b, I, J) (some (.int (nI (if cb_T2 n cs p ≤ 300000 then cb_T2 n cs p else 300001)))) (xk_R b, I, J') ∧ ∀ q, q ≠ 34 → q ≠ 35 → J' q = J q := by
  have q76 := cb_qs n hn
  obtain ⟨J1, f1, f2, -, f4⟩ := lx_fill34 (C := ik_cr xk_P xk_M xk_Y xk_K xw_X (d + 1)) (b := b) (I := I) 76 0 J rfl
  have fc : lk_cx1 xw_X (d + 2) 151 [.ref 34, .long 1] (xk_R b, I, J) none (xk_R b, I, J1) := ik_cr_of (Nat.le_of_ble_eq_true rfl) (xp_J7_fill_d0a16_34_0_0 I J 1 (by decide) f1)
  obtain ⟨J', k1, k2⟩ := lx_rt15 (d := d) (b := b) hn hp3 hp hcs h (p - 1) 0 J1 (by omega) (fun i hi => f2 i (Nat.zero_le i) (by omega)) (by show cb_q n ≤ 300000; omega)
  refine ⟨J', ik_cr_of (Nat.le_of_ble_eq_true rfl) (xp_X5_reckonTries_0_0 I J fc (xp_X5_reckonTries_8_0 I J1 ?_)), fun q h1 h2 => (k2 q h1 h2).trans (f4 q h1)⟩
  have q := xp_X5_reckonTries_15_2 (C := ik_cr xk_P xk_M xk_Y xk_K xw_X (d + 2)) (v := some (.int (nI (if cb_T2 n cs p ≤ 300000 then cb_T2 n cs p else 300001)))) (τ := (xk_R b, I, J')) (b := b) I J1 0 1 0 (by rw [h.2.1]; exact nI_ge (a := 0) (by omega) (by omega))
  rw [h.1.1.2.1, nI_l (by omega), show (0 : Int64) + 1 * lN (cb_q n) = lN (cb_q n) from by rw [Int64.zero_add, Int64.one_mul]] at q
  refine q ((lg_le (c := 300000) (by omega) (by decide)).mpr (by omega)) rfl ?_
  rw [cb_ds0] at k1
  exact k1
end CB5
