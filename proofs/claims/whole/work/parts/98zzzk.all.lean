/-! ===== all words of a board: no two alike ===== -/
def lw (p : Nat) : Nat → Nat → List (List Nat)
  | _, 0 => []
  | k, K + 1 => aw p k ++ lw p (k + 1) K
section AL1
variable {p : Nat} {cs : Nat → Nat} {cl : List Nat} {W : List (List Nat)} {la : Nat} {mu : Nat → Nat} {Y : Nat}
theorem pall_s {K s HL HR BB AC ID : Nat} {ml Xs : List Nat} : pall p cl W la ml Y (K + 1) s HL HR BB AC ID Xs = pvl la (p * s) AC ID ml Xs + (pall p cl W la ml Y K (s * (p - 1)) (pgat (68 * s * (p - 1)) (phl p (68 * s) (rep 68 (s * (p - 1))) HR) p) (pgat (68 * s * (p - 1)) (phr p (68 * s) (rep 68 (s * (p - 1))) HL BB) p) (pgat (68 * s * (p - 1)) (fun y => pbb p (68 * s) (rep 68 (s * (p - 1))) HR (cl.getD ((y + p - 1) % p) 0) y) p) (pgat (68 * s * (p - 1)) (fun y => pac p (68 * s) (rep 68 (s * (p - 1))) HL BB AC (cl.getD y 0) y) p) (pgat (68 * s * (p - 1)) (pid p (68 * s) (rep 68 (s * (p - 1))) ID) p) (pxl p (68 * s) (68 * s * (p - 1)) (rep 68 (s * (p - 1))) W Xs Xs 0)) <<< (68 * s * p) :=
  nsl_eq (pxl p (68 * s) (68 * s * (p - 1)) (rep 68 (s * (p - 1))) W Xs Xs 0) (fun Xs' => Nat.add (pvl la (Nat.mul p s) AC ID ml Xs) (Nat.shiftLeft (pall p cl W la ml Y K (Nat.mul s (Nat.sub p 1)) (pgat (68 * s * (p - 1)) (phl p (68 * s) (rep 68 (s * (p - 1))) HR) p) (pgat (68 * s * (p - 1)) (phr p (68 * s) (rep 68 (s * (p - 1))) HL BB) p) (pgat (68 * s * (p - 1)) (fun y => pbb p (68 * s) (rep 68 (s * (p - 1))) HR (cl.getD ((y + p - 1) % p) 0) y) p) (pgat (68 * s * (p - 1)) (fun y => pac p (68 * s) (rep 68 (s * (p - 1))) HL BB AC (cl.getD y 0) y) p) (pgat (68 * s * (p - 1)) (pid p (68 * s) (rep 68 (s * (p - 1))) ID) p) Xs') (Nat.mul (Nat.mul 68 s) p)))
theorem pall_of (hp3 : 3 ≤ p) (hp : p ≤ 8) (hcs : ∀ j, j < p → cs j < 10) (hcl : ∀ y, y < p → cl.getD y 0 = cs y) (hW : ∀ y, y < p → W.getD y [] = (List.range p).map (wc p cs y)) (hla : la < 2147478481) (hmu : ∀ j, j < p → mu j < 2147478481) : ∀ (K k HL HR BB AC ID : Nat) (Xs : List Nat), (p + 1) ^ (k + K) ≤ 2147483648 → k + K ≤ 20 → lvl p cs k HL HR BB AC ID Xs → pall p cl W la ((List.range p).map mu) Y K ((p - 1) ^ k) HL HR BB AC ID Xs = ofD 68 ((lw p k K).map (wval p cs la mu)) + 2 ^ (68 * (lw p k K).length) * Y := by
  intro K
  induction K with
  | zero =>
    intro k HL HR BB AC ID Xs _ _ _
    show Y = 0 + 2 ^ (68 * 0) * Y
    rw [Nat.mul_zero, Nat.pow_zero, Nat.one_mul, Nat.zero_add]
  | succ K ih =>
    intro k HL HR BB AC ID Xs hB hk h
    have ih' := ih (k + 1) _ _ _ _ _ _ (by rw [show k + 1 + K = k + (K + 1) by omega]; exact hB) (by omega) (lvl_step hp3 hp (by omega) hcs hcl hW h)
    rw [Nat.pow_succ] at ih'
    rw [pall_s, pvl_of hp3 hp (Nat.le_trans (Nat.pow_le_pow_right (by omega) (by omega)) hB) hla hmu h.2.2.2.1 h.2.2.2.2.1 h.2.2.2.2.2, ih']
    show _ = ofD 68 ((aw p k ++ lw p (k + 1) K).map (wval p cs la mu)) + 2 ^ (68 * (aw p k ++ lw p (k + 1) K).length) * Y
    rw [List.map_append, ofD_app, List.length_append, List.length_map, aw_len hp3, pow_mul_shl, Nat.mul_add, Nat.mul_add, Nat.pow_add, Nat.mul_assoc 68, ← Nat.add_assoc, Nat.mul_assoc (2 ^ (68 * ((p - 1) ^ k * p)))]
theorem lw_len (hp3 : 3 ≤ p) : ∀ (K k : Nat), (lw p k K).length = pcnt p K ((p - 1) ^ k) := by
  intro K
  induction K with
  | zero => intro k; rfl
  | succ K ih =>
    intro k
    show (aw p k ++ lw p (k + 1) K).length = p * (p - 1) ^ k + pcnt p K ((p - 1) ^ k * (p - 1))
    rw [List.length_append, aw_len hp3, ih, Nat.pow_succ, Nat.mul_comm p]
theorem lvl_0 (hp3 : 3 ≤ p) : lvl p cs 0 (pX0 p) (pX0 p) 0 (pX0 p) (pgat 68 (fun y => y + 1) p) ((List.range p).map (fun j => 2147478482 * 2 ^ (68 * j))) := by
  have g1 : ∀ (F : Nat → Nat) (f : List Nat → Nat), (∀ y, y < p → F y = f [y]) → pgat 68 F p = ofD 68 ((aw p 0).map f) := fun F f hF => by
    have := pgat_of (p := p) (g := gw p 0) (f := f) (S := 1) (F := F) (fun y _ => rfl) (fun y hy => by
      rw [hF y hy]
      show f [y] = f [y] + 2 ^ 68 * 0
      omega)
    exact this
  refine ⟨g1 _ _ (fun y _ => rfl), g1 _ _ (fun y _ => rfl), ?_, g1 _ _ (fun y _ => rfl), g1 _ _ (fun y _ => rfl), ?_⟩
  · refine (ofD_zero _ (fun w hw => ?_)).symm
    obtain ⟨d, _, h2⟩ := aw_mem hw
    have : w = [d] := List.mem_singleton.mp h2
    subst this; rfl
  · refine List.map_congr_left (fun j hj => ?_)
    have hj' := List.mem_range.mp hj
    have v : ∀ y, y < p → dn p cs [y] j = if j = y then 2147478482 else 0 := fun y _ => by
      show (if j = y then fo (fo (sN p (fun i => wc p cs y i * 0) + (6442435444 - 0))) else 0) = _
      by_cases e : j = y
      · rw [if_pos e, if_pos e]
        have z : sN p (fun i => wc p cs y i * 0) = 0 := by
          show sm _ p = 0
          rw [sm_congr (g := fun _ => 0) (fun i _ => Nat.mul_zero _), sm_zero]
        rw [z]; decide
      · rw [if_neg e, if_neg e]
    rw [← g1 (fun y => if j = y then 2147478482 else 0) (fun w => dn p cs w j) (fun y hy => (v y hy).symm)]
    have q : ∀ q, pgat 68 (fun y => if j = y then 2147478482 else 0) q = if j < q then 2147478482 * 2 ^ (68 * j) else 0 := by
      intro q
      induction q with
      | zero => rfl
      | succ q ih =>
        show pgat 68 (fun y => if j = y then 2147478482 else 0) q + (if j = q then 2147478482 else 0) <<< (68 * q) = _
        rw [ih, pow_mul_shl]
        by_cases e : j = q
        · rw [if_neg (by omega), if_pos e, if_pos (by omega), e, Nat.zero_add, Nat.mul_comm]
        · rw [if_neg e, Nat.mul_zero, Nat.add_zero]
          by_cases l : j < q
          · rw [if_pos l, if_pos (by omega)]
          · rw [if_neg l, if_neg (by omega)]
    rw [q p, if_pos hj']
end AL1
theorem ppad_of (n v : Nat) : ppad n v = ofD 68 (List.range' v n) := by
  have e68 : (2 : Nat) ^ 68 = 295147905179352825856 := by decide
  have r1 : ∀ n, rep 68 n = ofD 68 ((List.range n).map (fun _ => 1)) := fun n => by rw [ofD_const (by decide), Nat.one_mul, List.length_range]
  have rs : ∀ n, rep 68 (n + 1) = rep 68 n + 2 ^ (68 * n) := fun n => by
    rw [r1, r1, List.range_succ, List.map_append, ofD_app, List.length_map, List.length_range]
    show _ + 2 ^ (68 * n) * (1 + 2 ^ 68 * 0) = _
    rw [Nat.mul_zero, Nat.add_zero, Nat.mul_one]
  have sx : ∀ n, ofD 68 ((List.range (n + 1)).map (fun i => i)) = ofD 68 ((List.range n).map (fun i => i)) + 2 ^ (68 * n) * n := fun n => by
    rw [List.range_succ, List.map_append, ofD_app, List.length_map, List.length_range]
    show _ + 2 ^ (68 * n) * (n + 2 ^ 68 * 0) = _
    rw [Nat.mul_zero, Nat.add_zero]
  have key : ∀ n, 295147905179352825855 * ofD 68 ((List.range n).map (fun i => i)) + 295147905179352825856 * rep 68 n = n * 2 ^ (68 * n) := by
    intro n
    induction n with
    | zero => decide
    | succ n ih =>
      rw [sx, rs, Nat.mul_succ 68 n, Nat.pow_add, e68]
      generalize ofD 68 ((List.range n).map (fun i => i)) = S at ih ⊢
      generalize rep 68 n = R at ih ⊢
      generalize 2 ^ (68 * n) = B at ih ⊢
      have a1 : 295147905179352825855 * (B * n) = 295147905179352825856 * (n * B) - n * B := by
        rw [Nat.mul_comm B n]; omega
      have a2 : (n + 1) * (B * 295147905179352825856) = 295147905179352825856 * (n * B) + 295147905179352825856 * B := by
        rw [Nat.add_mul, Nat.one_mul, ← Nat.mul_assoc, Nat.mul_comm (n * B), Nat.mul_comm B]
      rw [Nat.mul_add, a1, a2]
      omega
  have e : (n * 2 ^ (68 * n) - 295147905179352825856 * rep 68 n) / 295147905179352825855 = ofD 68 ((List.range n).map (fun i => i)) := by
    rw [← key n, Nat.add_sub_cancel, Nat.mul_div_cancel_left _ (by decide)]
  show v * rep 68 n + (n * 2 ^ (68 * n) - 295147905179352825856 * rep 68 n) / 295147905179352825855 = _
  have l : (List.range n).length = n := List.length_range
  rw [e]
  have c : v * rep 68 n = ofD 68 ((List.range n).map (fun _ => v)) := by rw [ofD_const (by decide), l]
  rw [c, ofD_add]
  congr 1
  rw [List.range'_eq_map_range]
/-- two halves, one number of each in turn -/
theorem inter_dg {M : Nat} {f1 f2 : Nat → Nat} (h1 : ∀ i, i < M → f1 i < 4294967296) (h2 : ∀ i, i < M → f2 i < 4294967296) : ∀ i, i < M → dg (ofD 68 ((List.range M).map f1) + 2 ^ 34 * ofD 68 ((List.range M).map f2)) (2 * i) = f1 i ∧ dg (ofD 68 ((List.range M).map f1) + 2 ^ 34 * ofD 68 ((List.range M).map f2)) (2 * i + 1) = f2 i := by
  intro i hi
  rw [ofD_mul, ofD_add]
  have e34 : (2 : Nat) ^ 34 = 17179869184 := by decide
  have e32 : (2 : Nat) ^ 32 = 4294967296 := by decide
  have b : ∀ j, j < M → f1 j + 2 ^ 34 * f2 j < 2 ^ 68 := fun j hj => by
    have := h1 j hj
    have := h2 j hj
    have : (2 : Nat) ^ 68 = 295147905179352825856 := by decide
    omega
  have r := ofD_range 68 (fun j => f1 j + 2 ^ 34 * f2 j) M b
  have l1 : f1 i < 2 ^ 34 := by have := h1 i hi; omega
  constructor
  · apply Nat.eq_of_testBit_eq
    intro c
    rw [dg_bit]
    by_cases hc : c < 32
    · rw [decide_eq_true hc, Bool.true_and, show 34 * (2 * i) + c = 68 * i + c by omega, r i c (by omega), decide_eq_true hi, Bool.true_and, bit_split l1, if_pos (by omega)]
    · rw [decide_eq_false hc, Bool.false_and]
      exact (Nat.testBit_lt_two_pow (Nat.lt_of_lt_of_le (show f1 i < 2 ^ 32 by have := h1 i hi; omega) (Nat.pow_le_pow_right (by decide) (by omega)))).symm
  · apply Nat.eq_of_testBit_eq
    intro c
    rw [dg_bit]
    by_cases hc : c < 32
    · rw [decide_eq_true hc, Bool.true_and, show 34 * (2 * i + 1) + c = 68 * i + (34 + c) by omega, r i (34 + c) (by omega), decide_eq_true hi, Bool.true_and, bit_split l1, if_neg (by omega), Nat.add_sub_cancel_left]
    · rw [decide_eq_false hc, Bool.false_and]
      exact (Nat.testBit_lt_two_pow (Nat.lt_of_lt_of_le (show f2 i < 2 ^ 32 by have := h2 i hi; omega) (Nat.pow_le_pow_right (by decide) (by omega)))).symm
theorem getD_get {l : List Nat} {i : Nat} (h : i < l.length) : l.getD i 0 = l[i] := by
  rw [List.getD_eq_getElem?_getD, List.getElem?_eq_getElem h]; rfl
/-- a list of numbers, the halves in turn, all different -/
theorem inter_inj {M X : Nat} {D : List Nat} (hD : D.length = 2 * M) (hX : X = ofD 68 D) (hlt : ∀ x, x ∈ D → x < 4294967296) (h : ∀ i j, i < 2 * M → j < 2 * M → dg (X % 2 ^ (68 * M) + (X >>> (68 * M)) <<< 34) i = dg (X % 2 ^ (68 * M) + (X >>> (68 * M)) <<< 34) j → i = j) : ∀ i j, i < 2 * M → j < 2 * M → D.getD i 0 = D.getD j 0 → i = j := by
  have gl : ∀ i, i < 2 * M → D.getD i 0 < 4294967296 := fun i hi => by
    rw [getD_get (by omega)]
    exact hlt _ (List.getElem_mem _)
  have sp : D = (List.range M).map (fun i => D.getD i 0) ++ (List.range M).map (fun i => D.getD (M + i) 0) := by
    apply List.ext_getElem
    · rw [List.length_append, List.length_map, List.length_map, List.length_range, hD]; omega
    · intro i h1 h2
      by_cases c : i < M
      · rw [List.getElem_append_left (by rw [List.length_map, List.length_range]; exact c), List.getElem_map, List.getElem_range, getD_get h1]
      · rw [List.getElem_append_right (by rw [List.length_map, List.length_range]; omega), List.getElem_map, List.getElem_range]
        simp only [List.length_map, List.length_range]
        rw [getD_get (by omega)]
        congr 1
        omega
  have A : ofD 68 ((List.range M).map (fun i => D.getD i 0)) < 2 ^ (68 * M) := by
    have := ofD_lt (b := 68) (fun i => D.getD i 0) (List.range M) (fun i hi => Nat.lt_trans (gl i (by have := List.mem_range.mp hi; omega)) (by decide))
    rw [List.length_range] at this; exact this
  have ex : X % 2 ^ (68 * M) + (X >>> (68 * M)) <<< 34 = ofD 68 ((List.range M).map (fun i => D.getD i 0)) + 2 ^ 34 * ofD 68 ((List.range M).map (fun i => D.getD (M + i) 0)) := by
    rw [hX]
    conv => lhs; rw [sp]
    rw [ofD_app, List.length_map, List.length_range, Nat.add_mul_mod_self_left, Nat.mod_eq_of_lt A, pow_mul_shl, Nat.shiftRight_eq_div_pow, Nat.add_mul_div_left _ _ (Nat.two_pow_pos _), Nat.div_eq_of_lt A, Nat.zero_add]
  rw [ex] at h
  have q := inter_dg (M := M) (f1 := fun i => D.getD i 0) (f2 := fun i => D.getD (M + i) 0) (fun i hi => gl i (by omega)) (fun i hi => gl (M + i) (by omega))
  have pos : ∀ i, i < 2 * M → ∃ z, z < 2 * M ∧ dg (ofD 68 ((List.range M).map (fun i => D.getD i 0)) + 2 ^ 34 * ofD 68 ((List.range M).map (fun i => D.getD (M + i) 0))) z = D.getD i 0 ∧ (i < M ∧ z = 2 * i ∨ M ≤ i ∧ z = 2 * (i - M) + 1) := fun i hi => by
    by_cases c : i < M
    · exact ⟨2 * i, by omega, (q i c).1, Or.inl ⟨c, rfl⟩⟩
    · refine ⟨2 * (i - M) + 1, by omega, ?_, Or.inr ⟨by omega, rfl⟩⟩
      have := (q (i - M) (by omega)).2
      rw [this]
      show D.getD (M + (i - M)) 0 = _
      rw [show M + (i - M) = i by omega]
  intro i j hi hj e
  obtain ⟨z, z1, z2, z3⟩ := pos i hi
  obtain ⟨y, y1, y2, y3⟩ := pos j hj
  have := h z y z1 y1 (by rw [z2, y2]; exact e)
  omega
