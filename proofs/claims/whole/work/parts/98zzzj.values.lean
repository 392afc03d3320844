/-! ===== all words of one length: values ===== -/
theorem nst_eq {α : Type} (e : Nat) (F : Nat → α) : nst e F = F e := rfl
theorem nsl_eq {α : Type} : ∀ (l : List Nat) (k : List Nat → α), nsl l k = k l := by
  intro l
  induction l with
  | nil => intro k; rfl
  | cons x l ih => intro k; show nst x (fun v => nsl l (fun l' => k (v :: l'))) = _; rw [nst_eq, ih]
theorem pxl_of {p t T R : Nat} {W : List (List Nat)} {Xs0 : List Nat} {G : Nat → Nat} : ∀ (n j : Nat), pxl p t T R W Xs0 ((List.range' j n).map G) j = (List.range' j n).map (fun i => pxj p t T R W Xs0 i (G i)) := by
  intro n
  induction n with
  | zero => intro j; rfl
  | succ n ih =>
    intro j
    rw [List.range'_succ, List.map_cons, List.map_cons]
    show pxj p t T R W Xs0 j (G j) :: pxl p t T R W Xs0 ((List.range' (j + 1) n).map G) (j + 1) = _
    rw [ih]
theorem beq_t {a b : Nat} (h : a = b) : Nat.beq a b = true := by
  subst h
  exact Nat.beq_refl a
theorem beq_f {a b : Nat} (h : a ≠ b) : Nat.beq a b = false := by
  cases hb : Nat.beq a b with
  | false => rfl
  | true => exact absurd (Nat.eq_of_beq_eq_true hb) h
section LU1
variable {p k : Nat} {cs : Nat → Nat} {cl : List Nat} {W : List (List Nat)} {HL HR BB AC ID : Nat} {Xs : List Nat}
theorem lvl_step (hp3 : 3 ≤ p) (hp : p ≤ 8) (hk : k ≤ 20) (hcs : ∀ j, j < p → cs j < 10) (hcl : ∀ y, y < p → cl.getD y 0 = cs y) (hW : ∀ y, y < p → W.getD y [] = (List.range p).map (wc p cs y)) (h : lvl p cs k HL HR BB AC ID Xs) : lvl p cs (k + 1) (pgat (68 * (p - 1) ^ k * (p - 1)) (phl p (68 * (p - 1) ^ k) (rep 68 ((p - 1) ^ k * (p - 1))) HR) p) (pgat (68 * (p - 1) ^ k * (p - 1)) (phr p (68 * (p - 1) ^ k) (rep 68 ((p - 1) ^ k * (p - 1))) HL BB) p) (pgat (68 * (p - 1) ^ k * (p - 1)) (fun y => pbb p (68 * (p - 1) ^ k) (rep 68 ((p - 1) ^ k * (p - 1))) HR (cl.getD ((y + p - 1) % p) 0) y) p) (pgat (68 * (p - 1) ^ k * (p - 1)) (fun y => pac p (68 * (p - 1) ^ k) (rep 68 ((p - 1) ^ k * (p - 1))) HL BB AC (cl.getD y 0) y) p) (pgat (68 * (p - 1) ^ k * (p - 1)) (pid p (68 * (p - 1) ^ k) (rep 68 ((p - 1) ^ k * (p - 1))) ID) p) (pxl p (68 * (p - 1) ^ k) (68 * (p - 1) ^ k * (p - 1)) (rep 68 ((p - 1) ^ k * (p - 1))) W Xs Xs 0) := by
  obtain ⟨h1, h2, h3, h4, h5, h6⟩ := h
  subst h1; subst h2; subst h3; subst h4; subst h5; subst h6
  refine ⟨row_up hp3 (fun y hy => hl_up hp3 hk hy), row_up hp3 (fun y hy => hr_up hp3 hk hy), row_up hp3 (fun y hy => ?_), row_up hp3 (fun y hy => ?_), row_up hp3 (fun y hy => id_up hp3 hp hk hy), ?_⟩
  · obtain ⟨o1, o2, o3, o4, o5⟩ := nb_sides hp3 hy
    rw [hcl _ o5]; exact bb_up hp3 hk hcs hy
  · rw [hcl y hy]; exact ac_up hp3 hk hcs hy
  · generalize hX : (List.range p).map (fun j => ofD 68 ((aw p k).map (fun w => dn p cs w j))) = X0
    have e : pxl p (68 * (p - 1) ^ k) (68 * (p - 1) ^ k * (p - 1)) (rep 68 ((p - 1) ^ k * (p - 1))) W X0 X0 0 = (List.range' 0 p).map (fun i => pxj p (68 * (p - 1) ^ k) (68 * (p - 1) ^ k * (p - 1)) (rep 68 ((p - 1) ^ k * (p - 1))) W X0 i (ofD 68 ((aw p k).map (fun w => dn p cs w i)))) := by
      have := pxl_of (p := p) (t := 68 * (p - 1) ^ k) (T := 68 * (p - 1) ^ k * (p - 1)) (R := rep 68 ((p - 1) ^ k * (p - 1))) (W := W) (Xs0 := X0) (G := fun j => ofD 68 ((aw p k).map (fun w => dn p cs w j))) p 0
      rw [← List.range_eq_range', hX] at this
      rw [← List.range_eq_range']; exact this
    rw [e, ← List.range_eq_range']
    refine List.map_congr_left (fun j hj => ?_)
    have hj' := List.mem_range.mp hj
    refine row_up hp3 (fun y hy => ?_)
    show (bif Nat.beq y j then _ else _) = _
    by_cases c : y = j
    · subst c
      rw [beq_t rfl, ← hX]
      exact nw_up hp3 hp hy (hW y hy)
    · rw [beq_f c]
      show pcut (68 * (p - 1) ^ k) y (ofD 68 ((aw p k).map (fun w => dn p cs w j))) = _
      rw [pcut_of (gl hp3) hy (fun w _ => Nat.lt_trans (dn_lt p cs hp w j) (by decide))]
      exact ofD_congr (fun w _ => (if_neg (fun z => c z.symm)).symm)
end LU1
/-- a word's value: its hash if it is accepted, a number of its own if not -/
def wH (p : Nat) (cs : Nat → Nat) (la : Nat) (mu : Nat → Nat) (w : List Nat) : Nat := la + ssum (fun j => mu j * dn p cs w j) (List.range p)
def wval (p : Nat) (cs : Nat → Nat) (la : Nat) (mu : Nat → Nat) (w : List Nat) : Nat := if (wq p cs w).2.2.2 = 1 then wH p cs la mu w % 2147478481 else 2147483648 + wid p w
theorem cg_mod_eq {P a b : Nat} (h : cg P a b) : a % P = b % P := by
  obtain ⟨k, h⟩ := h
  have h1 : (a : Int) % P = b % P := by rw [h, Int.add_mul_emod_self_left]
  have h2 : ((a % P : Nat) : Int) = ((b % P : Nat) : Int) := by rw [Int.natCast_emod, Int.natCast_emod]; exact h1
  exact Int.ofNat_inj.mp h2
theorem fo3 {x : Nat} (hx : x < 2 ^ 67) : fo (fo (fo x)) - 2147478481 * (((fo (fo (fo x)) + 2147488815) >>> 32) &&& 1) = x % 2147478481 := by
  have c : cg an_P1 (fo (fo (fo x)) : Nat) x := cg_trans (fo_cg _) (cg_trans (fo_cg _) (fo_cg _))
  have m := cg_mod_eq (P := an_P1) c
  unfold an_P1 at m
  rw [← m, Nat.shiftRight_eq_div_pow, Nat.and_one_is_mod]
  have b : fo (fo (fo x)) < 2147490000 := by
    have e67 : (2 : Nat) ^ 67 = 147573952589676412928 := by decide
    rw [e67] at hx
    unfold fo
    omega
  generalize fo (fo (fo x)) = h at b ⊢
  have e32 : (2 : Nat) ^ 32 = 4294967296 := by decide
  rw [e32]
  by_cases c : h < 2147478481
  · rw [Nat.div_eq_of_lt (show h + 2147488815 < 4294967296 by omega), Nat.mod_eq_of_lt c]; rfl
  · have q : (h + 2147488815) / 4294967296 = 1 := by omega
    have q2 : h % 2147478481 = h - 2147478481 := by
      rw [Nat.mod_eq_sub_mod (by omega), Nat.mod_eq_of_lt (by omega)]
    rw [q, q2]
section LU2
variable {p k : Nat} {cs : Nat → Nat} {la : Nat} {mu : Nat → Nat} {AC ID : Nat} {Xs : List Nat}
theorem wH_lt (hp : p ≤ 8) (hla : la < 2147478481) (hmu : ∀ j, j < p → mu j < 2147478481) (w : List Nat) : wH p cs la mu w < 2 ^ 67 := by
  unfold wH
  rw [ssum_range]
  have := sm_bound (f := fun j => mu j * dn p cs w j) (B := 2147478481 * 4294967296) (n := p) (fun j hj => Nat.mul_le_mul (Nat.le_of_lt (hmu j hj)) (Nat.le_of_lt (dn_lt p cs hp w j)))
  have b2 : p * (2147478481 * 4294967296) ≤ 8 * (2147478481 * 4294967296) := Nat.mul_le_mul_right _ hp
  have e67 : (2 : Nat) ^ 67 = 147573952589676412928 := by decide
  rw [e67]
  omega
theorem pvl_of (hp3 : 3 ≤ p) (hp : p ≤ 8) (hk : (p + 1) ^ (k + 1) ≤ 2147483648) (hla : la < 2147478481) (hmu : ∀ j, j < p → mu j < 2147478481) (hA : AC = ofD 68 ((aw p k).map (fun w => (wq p cs w).2.2.2))) (hI : ID = ofD 68 ((aw p k).map (wid p))) (hX : Xs = (List.range p).map (fun j => ofD 68 ((aw p k).map (fun w => dn p cs w j)))) : pvl la (p * (p - 1) ^ k) AC ID ((List.range p).map mu) Xs = ofD 68 ((aw p k).map (wval p cs la mu)) := by
  have len : p * (p - 1) ^ k = (aw p k).length := by rw [aw_len hp3, Nat.mul_comm]
  have big : (2 : Nat) ^ 68 = 295147905179352825856 := by decide
  have big7 : (2 : Nat) ^ 67 = 147573952589676412928 := by decide
  have hH : ∀ w, wH p cs la mu w < 2 ^ 67 := fun w => wH_lt hp hla hmu w
  have f1 : ∀ w, wH p cs la mu w < 2 ^ 68 := fun w => by have := hH w; omega
  have f2 : ∀ w, fo (wH p cs la mu w) < 2 ^ 68 := fun w => by
    have := hH w
    rw [big7] at this
    rw [big]; unfold fo; omega
  have f3 : ∀ w, fo (fo (wH p cs la mu w)) < 2 ^ 68 := fun w => by
    have := hH w
    rw [big7] at this
    rw [big]; unfold fo; omega
  have f4 : ∀ w, fo (fo (fo (wH p cs la mu w))) < 2147490000 := fun w => by
    have := hH w
    rw [big7] at this
    unfold fo; omega
  have a1 : ∀ w, (wq p cs w).2.2.2 = 0 ∨ (wq p cs w).2.2.2 = 1 := fun w => by
    have := (wq_le (p := p) (cs := cs) w).2.2.2; omega
  have wi : ∀ w, w ∈ aw p k → wid p w < 2147483648 := fun w hw => by
    obtain ⟨d, d1, d2⟩ := aw_mem hw
    exact Nat.lt_of_lt_of_le (wid_lt k d1 d2) hk
  unfold pvl
  rw [nst_eq, nst_eq, nst_eq, hA, hI, hX, len]
  show ((pfo _ (pfo _ (pfo _ (la * rep 68 (aw p k).length + psm 0 0 ((List.range p).map mu) ((List.range p).map (fun j => ofD 68 ((aw p k).map (fun w => dn p cs w j))))))) - 2147478481 * (((pfo _ (pfo _ (pfo _ (la * rep 68 (aw p k).length + psm 0 0 ((List.range p).map mu) ((List.range p).map (fun j => ofD 68 ((aw p k).map (fun w => dn p cs w j))))))) + 2147488815 * rep 68 (aw p k).length) >>> 32) &&& rep 68 (aw p k).length)) &&& 4294967295 * ofD 68 ((aw p k).map (fun w => (wq p cs w).2.2.2))) + ((2147483648 * rep 68 (aw p k).length + ofD 68 ((aw p k).map (wid p))) &&& (4294967295 * rep 68 (aw p k).length - 4294967295 * ofD 68 ((aw p k).map (fun w => (wq p cs w).2.2.2)))) = _
  have r1 : rep 68 (aw p k).length = ofD 68 ((aw p k).map (fun _ => 1)) := by rw [← ofD_rep, Nat.one_mul]
  have hh : pfo (rep 68 (aw p k).length) (pfo (rep 68 (aw p k).length) (pfo (rep 68 (aw p k).length) (la * rep 68 (aw p k).length + psm 0 0 ((List.range p).map mu) ((List.range p).map (fun j => ofD 68 ((aw p k).map (fun w => dn p cs w j))))))) = ofD 68 ((aw p k).map (fun w => fo (fo (fo (wH p cs la mu w))))) := by
    rw [psm_of, ofD_rep, ofD_add]
    show pfo _ (pfo _ (pfo _ (ofD 68 ((aw p k).map (wH p cs la mu))))) = _
    rw [pfo_of (fun w _ => f1 w)]
    rw [pfo_of (fun w _ => f2 w)]
    rw [pfo_of (fun w _ => f3 w)]
  rw [hh]
  have sh : ((ofD 68 ((aw p k).map (fun w => fo (fo (fo (wH p cs la mu w))))) + 2147488815 * rep 68 (aw p k).length) >>> 32) &&& rep 68 (aw p k).length = ofD 68 ((aw p k).map (fun w => ((fo (fo (fo (wH p cs la mu w))) + 2147488815) >>> 32) &&& 1)) := by
    rw [ofD_rep, ofD_add, r1, show (fun _ : List Nat => (1 : Nat)) = fun _ => (2 ^ (68 - 32) - 1) &&& 1 from rfl, ← ofD_and (fun _ => 2 ^ (68 - 32) - 1) (fun _ => 1) (aw p k) (fun _ _ => by decide) (fun _ _ => by decide), ← Nat.and_assoc, ofD_shr 32 (by decide) _ _ (fun w _ => by have := f4 w; rw [big]; omega), ofD_and _ _ _ (fun w _ => Nat.lt_of_le_of_lt (Nat.shiftRight_le _ _) (by have := f4 w; rw [big]; omega)) (fun _ _ => by decide)]
  have s1 : ∀ w, 2147478481 * (((fo (fo (fo (wH p cs la mu w))) + 2147488815) >>> 32) &&& 1) ≤ fo (fo (fo (wH p cs la mu w))) := fun w => by
    have h4 := f4 w
    rw [Nat.shiftRight_eq_div_pow, Nat.and_one_is_mod]
    have e32 : (2 : Nat) ^ 32 = 4294967296 := by decide
    rw [e32]
    generalize fo (fo (fo (wH p cs la mu w))) = h at h4 ⊢
    by_cases c : h < 2147478481
    · rw [Nat.div_eq_of_lt (show h + 2147488815 < 4294967296 by omega)]; omega
    · have q : (h + 2147488815) / 4294967296 = 1 := by omega
      rw [q]; omega
  have s2 : ∀ w, 4294967295 * (wq p cs w).2.2.2 ≤ 4294967295 := fun w => by have := a1 w; omega
  have s3 : ∀ w, fo (fo (fo (wH p cs la mu w))) - 2147478481 * (((fo (fo (fo (wH p cs la mu w))) + 2147488815) >>> 32) &&& 1) < 2 ^ 68 := fun w => by
    have := f4 w
    rw [big]; omega
  have s4 : ∀ w, 4294967295 * (wq p cs w).2.2.2 < 2 ^ 68 := fun w => by
    have := s2 w
    rw [big]; omega
  have s5 : ∀ w, w ∈ aw p k → 2147483648 + wid p w < 2 ^ 68 := fun w hw => by
    have := wi w hw
    rw [big]; omega
  have s6 : ∀ w, 4294967295 - 4294967295 * (wq p cs w).2.2.2 < 2 ^ 68 := fun w => by
    rw [big]; omega
  rw [sh, ofD_mul, ofD_sub _ _ _ (fun w _ => s1 w), ofD_rep, ofD_rep, ofD_mul, ofD_add, ofD_sub _ _ _ (fun w _ => s2 w), ofD_and _ _ _ (fun w _ => s3 w) (fun w _ => s4 w), ofD_and _ _ _ s5 (fun w _ => s6 w), ofD_add]
  refine ofD_congr (fun w hw => ?_)
  rw [fo3 (hH w)]
  unfold wval
  have ml : wH p cs la mu w % 2147478481 < 2 ^ 32 := Nat.lt_trans (Nat.mod_lt _ (by decide)) (by decide)
  have e32 : (2 : Nat) ^ 32 = 4294967296 := by decide
  have il : 2147483648 + wid p w < 2 ^ 32 := by
    have := wi w hw
    omega
  rcases a1 w with a | a
  · rw [a, if_neg (by decide)]
    show (_ &&& 4294967295 * 0) + (_ &&& (4294967295 - 4294967295 * 0)) = _
    rw [Nat.mul_zero, Nat.and_zero, Nat.zero_add, Nat.sub_zero, show (4294967295 : Nat) = 2 ^ 32 - 1 from rfl, Nat.and_two_pow_sub_one_of_lt_two_pow il]
  · rw [a, if_pos rfl]
    show (_ &&& 4294967295 * 1) + (_ &&& (4294967295 - 4294967295 * 1)) = _
    rw [Nat.mul_one, Nat.sub_self, Nat.and_zero, Nat.add_zero, show (4294967295 : Nat) = 2 ^ 32 - 1 from rfl, Nat.and_two_pow_sub_one_of_lt_two_pow ml]
end LU2
