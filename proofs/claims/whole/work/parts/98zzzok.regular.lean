/-! ===== six sides or more: the numbers of steps are known by the vector (6) ===== -/
theorem prm_t : allB (fun i => allB (fun j => !(Nat.beq (Nat.mod 2147478481 (Nat.add (Nat.add (Nat.mul 216 i) j) 2)) 0)) 216) 216 = true := by decide +kernel
theorem prm_d {d : Nat} (h2 : 2 ≤ d) (hd : d < 46657) : 2147478481 % d ≠ 0 := by
  intro h0
  have a := allB_t prm_t ((d - 2) / 216) (by omega)
  have b := allB_t a ((d - 2) % 216) (by omega)
  have e : Nat.add (Nat.add (Nat.mul 216 ((d - 2) / 216)) ((d - 2) % 216)) 2 = d := by
    show 216 * ((d - 2) / 216) + (d - 2) % 216 + 2 = d
    omega
  have b' : (!(Nat.beq (Nat.mod 2147478481 (Nat.add (Nat.add (Nat.mul 216 ((d - 2) / 216)) ((d - 2) % 216)) 2)) 0)) = true := b
  rw [e] at b'
  have h0' : Nat.mod 2147478481 d = 0 := h0
  rw [h0'] at b'
  exact absurd b' (by decide)
theorem prm_g {m : Nat} (h0 : 0 < m) (hm : m < 2147478481) : Nat.gcd 2147478481 m = 1 := by
  have d1 := Nat.gcd_dvd_left 2147478481 m
  have d2 := Nat.gcd_dvd_right 2147478481 m
  have le := Nat.le_of_dvd h0 d2
  have gp : 0 < Nat.gcd 2147478481 m := Nat.gcd_pos_of_pos_right _ h0
  generalize Nat.gcd 2147478481 m = g at *
  obtain ⟨h, e⟩ := d1
  by_cases g1 : g = 1
  · exact g1
  · exfalso
    have h2 : 2 ≤ h := by
      by_cases c : 2 ≤ h
      · exact c
      · have : h = 0 ∨ h = 1 := by omega
        rcases this with c | c <;> subst c <;> omega
    by_cases c : g < 46657
    · exact prm_d (by omega) c (by rw [e]; exact Nat.mul_mod_right _ _)
    · by_cases c2 : h < 46657
      · exact prm_d h2 c2 (by rw [e]; exact Nat.mul_mod_left _ _)
      · have : 46657 * 46657 ≤ g * h := Nat.mul_le_mul (by omega) (by omega)
        omega
/-- a factor that isn't 0 may be left out -/
theorem prm_c {n : Nat} {a : Int} (hn : n % 2147478481 ≠ 0) (h : cg an_P1 ((n : Int) * a) 0) : cg an_P1 a 0 := by
  obtain ⟨k, e⟩ := h
  have cop : Nat.gcd 2147478481 n = 1 := by
    have := prm_g (Nat.pos_of_ne_zero hn) (Nat.mod_lt n (by decide))
    rw [Nat.gcd_comm, ← Nat.gcd_rec] at this
    exact this
  have dv : (2147478481 : Nat) ∣ n * a.natAbs := by
    have : (n : Int) * a = (2147478481 : Int) * k := by
      rw [e, Int.zero_add]; rfl
    have e2 := congrArg Int.natAbs this
    rw [Int.natAbs_mul, Int.natAbs_mul] at e2
    exact ⟨k.natAbs, e2⟩
  have d2 : (2147478481 : Nat) ∣ a.natAbs := Nat.Coprime.dvd_of_dvd_mul_left cop dv
  obtain ⟨q, eq⟩ := d2
  have e3 : ((a.natAbs : Nat) : Int) = 2147478481 * (q : Int) := by
    rw [eq, Int.natCast_mul]; rfl
  have eP : ((an_P1 : Nat) : Int) = 2147478481 := rfl
  rcases Int.natAbs_eq a with c | c
  · exact ⟨(q : Int), by rw [eP]; omega⟩
  · exact ⟨-(q : Int), by rw [eP]; omega⟩
section RG1
variable {p : Nat} {cs : Nat → Nat} {δ : Nat → Int}
theorem wa_sum (hp : 3 ≤ p) {j : Nat} (hj : j < p) : sI (fun i => wa p cs i j * δ i) p = 2 * sI δ p - 4 * δ j - (2 - (an_c1 (cs ((j + p - 1) % p)) : Int)) * δ ((j + p - 1) % p) - (2 - (an_c1 (cs j) : Int)) * δ ((j + 1) % p) := by
  obtain ⟨o1, o2, o3, o4, o5⟩ := nb_sides hp hj
  have m3 := md_3 hj
  have c0 : an_c1 0 = 2 := rfl
  have w0 : ∀ i, i < p → i ≠ j → i ≠ (j + p - 1) % p → i ≠ (j + 1) % p → wa p cs i j = 2 := fun i hi h1 h2 h3 => by
    unfold wa
    rw [if_neg h1]
    have : an_m p cs i j = 0 := by
      unfold an_m
      rw [if_neg (fun e => h2 (by rcases md_1 hi with ⟨x1, x2⟩ | ⟨x1, x2⟩ <;> rcases md_2 hj with ⟨x3, x4⟩ | ⟨x3, x4⟩ <;> omega)), if_neg (fun e => h3 e.symm)]
    rw [this, c0]; rfl
  have wj : wa p cs j j = -2 := if_pos rfl
  have wa' : wa p cs ((j + p - 1) % p) j = (an_c1 (cs ((j + p - 1) % p)) : Int) := by
    unfold wa
    rw [if_neg o2]
    unfold an_m
    rw [if_pos m3]
  have wb : wa p cs ((j + 1) % p) j = (an_c1 (cs j) : Int) := by
    unfold wa
    rw [if_neg o1]
    unfold an_m
    rw [if_neg (fun e => o3 (by rcases md_1 o4 with ⟨x1, x2⟩ | ⟨x1, x2⟩ <;> rcases md_2 hj with ⟨x3, x4⟩ | ⟨x3, x4⟩ <;> omega)), if_pos rfl]
  have h1 : sI (fun i => if i = j then wa p cs j j * δ j else 2 * δ i) p = 2 * sI δ p + (wa p cs j j * δ j - 2 * δ j) := by
    have q := sI_upd (f := fun i => 2 * δ i) (g := fun i => if i = j then wa p cs j j * δ j else 2 * δ i) hj (fun i _ hn => if_neg hn)
    have q' : sI (fun i => if i = j then wa p cs j j * δ j else 2 * δ i) p = sI (fun i => 2 * δ i) p + ((if j = j then wa p cs j j * δ j else 2 * δ j) - 2 * δ j) := q
    rw [if_pos rfl, sI_mul] at q'
    exact q'
  have h2 : sI (fun i => if i = (j + p - 1) % p then wa p cs ((j + p - 1) % p) j * δ ((j + p - 1) % p) else if i = j then wa p cs j j * δ j else 2 * δ i) p = sI (fun i => if i = j then wa p cs j j * δ j else 2 * δ i) p + (wa p cs ((j + p - 1) % p) j * δ ((j + p - 1) % p) - 2 * δ ((j + p - 1) % p)) := by
    have q := sI_upd (f := fun i => if i = j then wa p cs j j * δ j else 2 * δ i) (g := fun i => if i = (j + p - 1) % p then wa p cs ((j + p - 1) % p) j * δ ((j + p - 1) % p) else if i = j then wa p cs j j * δ j else 2 * δ i) o5 (fun i _ hn => if_neg hn)
    have q' : sI (fun i => if i = (j + p - 1) % p then wa p cs ((j + p - 1) % p) j * δ ((j + p - 1) % p) else if i = j then wa p cs j j * δ j else 2 * δ i) p = sI (fun i => if i = j then wa p cs j j * δ j else 2 * δ i) p + ((if (j + p - 1) % p = (j + p - 1) % p then wa p cs ((j + p - 1) % p) j * δ ((j + p - 1) % p) else if (j + p - 1) % p = j then wa p cs j j * δ j else 2 * δ ((j + p - 1) % p)) - (if (j + p - 1) % p = j then wa p cs j j * δ j else 2 * δ ((j + p - 1) % p))) := q
    rw [if_pos (rfl : (j + p - 1) % p = (j + p - 1) % p), if_neg o2] at q'
    exact q'
  have h3 : sI (fun i => wa p cs i j * δ i) p = sI (fun i => if i = (j + p - 1) % p then wa p cs ((j + p - 1) % p) j * δ ((j + p - 1) % p) else if i = j then wa p cs j j * δ j else 2 * δ i) p + (wa p cs ((j + 1) % p) j * δ ((j + 1) % p) - 2 * δ ((j + 1) % p)) := by
    have q := sI_upd (f := fun i => if i = (j + p - 1) % p then wa p cs ((j + p - 1) % p) j * δ ((j + p - 1) % p) else if i = j then wa p cs j j * δ j else 2 * δ i) (g := fun i => wa p cs i j * δ i) o4 (fun i hi hn => by
      show wa p cs i j * δ i = if i = (j + p - 1) % p then wa p cs ((j + p - 1) % p) j * δ ((j + p - 1) % p) else if i = j then wa p cs j j * δ j else 2 * δ i
      by_cases c1 : i = (j + p - 1) % p
      · rw [if_pos c1, ← c1]
      · rw [if_neg c1]
        by_cases c2 : i = j
        · rw [if_pos c2, c2]
        · rw [if_neg c2, w0 i hi c2 c1 hn])
    have q' : sI (fun i => wa p cs i j * δ i) p = sI (fun i => if i = (j + p - 1) % p then wa p cs ((j + p - 1) % p) j * δ ((j + p - 1) % p) else if i = j then wa p cs j j * δ j else 2 * δ i) p + (wa p cs ((j + 1) % p) j * δ ((j + 1) % p) - (if (j + 1) % p = (j + p - 1) % p then wa p cs ((j + p - 1) % p) j * δ ((j + p - 1) % p) else if (j + 1) % p = j then wa p cs j j * δ j else 2 * δ ((j + 1) % p))) := q
    rw [if_neg o3, if_neg o1] at q'
    exact q'
  rw [h3, h2, h1, wj, wa', wb, Int.sub_mul, Int.sub_mul]
  omega
/-- vectors alike: what their numbers of steps differ by -/
theorem dv_dn (hp3 : 3 ≤ p) (hp : p ≤ 8) {w w' : List Nat} (hw : ∀ y, y ∈ w → y < p) (hw' : ∀ y, y ∈ w' → y < p) (h : ∀ j, j < p → wd_v p cs w j = wd_v p cs w' j) {j : Nat} (hj : j < p) : cg an_P1 ((2 - (an_c1 (cs ((j + p - 1) % p)) : Int)) * ((dn p cs w ((j + p - 1) % p) : Int) - dn p cs w' ((j + p - 1) % p)) + 4 * ((dn p cs w j : Int) - dn p cs w' j) + (2 - (an_c1 (cs j) : Int)) * ((dn p cs w ((j + 1) % p) : Int) - dn p cs w' ((j + 1) % p))) (2 * sI (fun i => (dn p cs w i : Int) - dn p cs w' i) p) := by
  have a1 := dn_v hp3 hp w hw j hj (cs := cs)
  have a2 := dn_v hp3 hp w' hw' j hj (cs := cs)
  rw [h j hj] at a1
  have a3 := cg_trans (cg_symm a1) a2
  have ws : sI (fun i => wa p cs i j * ((dn p cs w i : Int) - dn p cs w' i)) p = 2 * sI (fun i => (dn p cs w i : Int) - dn p cs w' i) p - 4 * ((dn p cs w j : Int) - dn p cs w' j) - (2 - (an_c1 (cs ((j + p - 1) % p)) : Int)) * ((dn p cs w ((j + p - 1) % p) : Int) - dn p cs w' ((j + p - 1) % p)) - (2 - (an_c1 (cs j) : Int)) * ((dn p cs w ((j + 1) % p) : Int) - dn p cs w' ((j + 1) % p)) := wa_sum (cs := cs) (δ := fun i => (dn p cs w i : Int) - dn p cs w' i) hp3 hj
  have ad : sI (fun i => wa p cs i j * ((dn p cs w i : Int) - dn p cs w' i) + wa p cs i j * (dn p cs w' i : Int)) p = sI (fun i => wa p cs i j * ((dn p cs w i : Int) - dn p cs w' i)) p + sI (fun i => wa p cs i j * (dn p cs w' i : Int)) p := sI_add (f := fun i => wa p cs i j * ((dn p cs w i : Int) - dn p cs w' i)) (g := fun i => wa p cs i j * (dn p cs w' i : Int)) p
  have ec : sI (fun i => wa p cs i j * ((dn p cs w i : Int) - dn p cs w' i) + wa p cs i j * (dn p cs w' i : Int)) p = sI (fun i => wa p cs i j * (dn p cs w i : Int)) p := sI_congr (fun i _ => by rw [Int.mul_sub, Int.sub_add_cancel])
  rw [ec] at ad
  obtain ⟨k, a3⟩ := a3
  refine ⟨-k, ?_⟩
  generalize (2 - (an_c1 (cs ((j + p - 1) % p)) : Int)) * ((dn p cs w ((j + p - 1) % p) : Int) - dn p cs w' ((j + p - 1) % p)) = A at *
  generalize (2 - (an_c1 (cs j) : Int)) * ((dn p cs w ((j + 1) % p) : Int) - dn p cs w' ((j + 1) % p)) = B at *
  rw [Int.mul_neg]
  generalize (an_P1 : Int) * k = M at *
  generalize sI (fun i => wa p cs i j * (dn p cs w i : Int)) p = S1 at *
  generalize sI (fun i => wa p cs i j * (dn p cs w' i : Int)) p = S2 at *
  omega
theorem dv_rz {m : Nat} (h : m < 10 ∧ m ≠ 1) : rz (dv (lbi m)) (2 - (an_c1 m : Int)) := by
  have e := Nat.eq_of_beq_eq_true (dv_eq ⟨m, h.1⟩ h.2)
  have e' : (dv (lbi m) + an_c1 m) % 2147478481 = 2 := e
  have c := cg_mod 2147478481 (dv (lbi m) + an_c1 m)
  rw [e'] at c
  obtain ⟨k, c⟩ := c
  refine ⟨-k, ?_⟩
  rw [Int.natCast_add] at c
  have eP : ((an_P1 : Nat) : Int) = 2147478481 := rfl
  rw [eP]
  omega
theorem AR_congr {P : Int} {y y' : Nat → Int} {X Y S a b t : Int} (h : AR P y X Y S a b t) (e : ∀ i, i < 6 → cg P (y i) (y' i)) : AR P y' X Y S a b t := by
  obtain ⟨h1, h2, h3⟩ := h
  have m : ∀ i, i < 6 → ∀ z, cg P (y i * z) (y' i * z) := fun i hi z => cg_mul2 (e i hi) (cg_refl _ z)
  exact ⟨cg_trans h1 (cg_add (cg_add (m 0 (by decide) a) (m 3 (by decide) b)) (m 4 (by decide) t)), cg_trans h2 (cg_add (cg_add (m 3 (by decide) a) (m 1 (by decide) b)) (m 5 (by decide) t)), cg_trans h3 (cg_add (cg_add (m 4 (by decide) a) (m 5 (by decide) b)) (m 2 (by decide) t))⟩
/-- what is left out of the left arc's numbers -/
def xo (i : Nat) : Int := [(4 : Int), 4, 2, 0, -2, -2].getD i 0
theorem xa_cg (y : List Nat) : ∀ i, i < 6 → cg an_P1 (zI y i) (zI (xa y) i - xo i) := by
  intro i hi
  have hs : ∀ {n : Nat} {c z : Int}, rz n z → z = c + zI y i → xo i = c → zI (xa y) i = (n : Int) → cg an_P1 (zI y i) (zI (xa y) i - xo i) := fun {n c z} h1 h2 h3 h4 => by
    rw [h3, h4]
    obtain ⟨k, e⟩ := cg_symm h1
    exact ⟨k, by omega⟩
  have : i = 0 ∨ i = 1 ∨ i = 2 ∨ i = 3 ∨ i = 4 ∨ i = 5 := by omega
  rcases this with e | e | e | e | e | e <;> subst e
  · exact hs (rz_a rz_k4 (rz_k (y.getD 0 0))) rfl rfl rfl
  · exact hs (rz_a rz_k4 (rz_k (y.getD 1 0))) rfl rfl rfl
  · exact hs (rz_a rz_k2 (rz_k (y.getD 2 0))) rfl rfl rfl
  · exact hs (c := 0) (rz_k (y.getD 3 0)) (by show zI y 3 = 0 + zI y 3; omega) rfl rfl
  · exact hs (c := -2) (rz_s (rz_k (y.getD 4 0)) rz_k2) (by show zI y 4 - 2 = -2 + zI y 4; omega) (by decide) (by simp only [zI, xa, List.getD_cons_zero, List.getD_cons_succ])
  · exact hs (c := -2) (rz_s (rz_k (y.getD 5 0)) rz_k2) (by show zI y 5 - 2 = -2 + zI y 5; omega) (by decide) (by simp only [zI, xa, List.getD_cons_zero, List.getD_cons_succ])
/-- two arcs whose determinant isn't 0: nothing at their ends -/
theorem two_nz {yl yr : List Nat} {X Y S X' Y' S' a b t : Int} (h : AR an_P1 (zI yl) X Y S a b t) (h' : AR an_P1 (zI yr) X' Y' S' a b t) (h1 : cg an_P1 (4 * a + X + X') (2 * t)) (h2 : cg an_P1 (4 * b + Y + Y') (2 * t)) (h3 : cg an_P1 (a + b + S + S') t) (hd : psu (xa yl) yr % 2147478481 ≠ 0) : cg an_P1 a 0 ∧ cg an_P1 b 0 ∧ cg an_P1 t 0 := by
  have hz := psu_dt (xa yl) yr (z := fun i => zI (xa yl) i + zI yr i) (fun _ _ => rfl)
  obtain ⟨d1, d2, d3⟩ := two_arcs (x := fun i => zI (xa yl) i - xo i) (AR_congr h (xa_cg yl)) h' h1 h2 h3 (z := fun i => zI (xa yl) i + zI yr i)
    (by show zI (xa yl) 0 + zI yr 0 = 4 + (zI (xa yl) 0 - 4) + zI yr 0; omega) (by show zI (xa yl) 1 + zI yr 1 = 4 + (zI (xa yl) 1 - 4) + zI yr 1; omega) (by show zI (xa yl) 2 + zI yr 2 = 2 + (zI (xa yl) 2 - 2) + zI yr 2; omega) (by show zI (xa yl) 3 + zI yr 3 = (zI (xa yl) 3 - 0) + zI yr 3; omega) (by show zI (xa yl) 4 + zI yr 4 = (zI (xa yl) 4 - (-2)) + zI yr 4 - 2; omega) (by show zI (xa yl) 5 + zI yr 5 = (zI (xa yl) 5 - (-2)) + zI yr 5 - 2; omega)
  have go : ∀ {x : Int}, cg an_P1 (dt3 (fun i => zI (xa yl) i + zI yr i) * x) 0 → cg an_P1 x 0 := fun {x} d => prm_c hd (cg_trans (cg_mul2 hz (cg_refl _ x)) d)
  exact ⟨go d1, go d2, go d3⟩
end RG1
/-- vectors alike: numbers of steps alike -/
def VN (p : Nat) (cs : Nat → Nat) : Prop := ∀ w w' : List Nat, (∀ y, y ∈ w → y < p) → (∀ y, y ∈ w' → y < p) → (∀ j, j < p → wd_v p cs w j = wd_v p cs w' j) → ∀ i, i < p → cg an_P1 (dn p cs w i) (dn p cs w' i)
theorem cg_d0 {P a b : Int} (h : cg P (a - b) 0) : cg P a b := by
  obtain ⟨k, e⟩ := h
  exact ⟨k, by omega⟩
theorem lbi_9 {cs : Nat → Nat} {p j : Nat} (hcs : ∀ j, j < p → cs j < 10 ∧ cs j ≠ 1) (hj : j < p) : lbi (cs j) < 9 := (lbl_lbi (hcs j hj)).2
theorem lbi_2 {m : Nat} (h : m < 10 ∧ m ≠ 1) (e : lbi m = 1) : m = 2 := by
  have := (lbl_lbi h).1
  rw [e] at this
  exact this.symm
theorem VN_8 {cs : Nat → Nat} (hcs : ∀ j, j < 8 → cs j < 10 ∧ cs j ≠ 1) (hx : ¬ ∀ j, j < 8 → cs j = 2) : VN 8 cs := by
  intro w w' hw hw' h
  have E := fun j (hj : j < 8) => dv_dn (by decide) (by decide) hw hw' h hj
  have e0 := E 0 (by decide)
  have e1 := E 1 (by decide)
  have e2 := E 2 (by decide)
  have e3 := E 3 (by decide)
  have e4 := E 4 (by decide)
  have e5 := E 5 (by decide)
  have e6 := E 6 (by decide)
  have e7 := E 7 (by decide)
  have L := fun j (hj : j < 8) => lbi_9 hcs hj
  have Z := fun j (hj : j < 8) => dv_rz (hcs j hj)
  have key : ∀ (δ : Nat → Int) (t : Int), t = sI δ 8 → cg an_P1 ((2 - (an_c1 (cs 7) : Int)) * δ 7 + 4 * δ 0 + (2 - (an_c1 (cs 0) : Int)) * δ 1) (2 * t) → cg an_P1 ((2 - (an_c1 (cs 0) : Int)) * δ 0 + 4 * δ 1 + (2 - (an_c1 (cs 1) : Int)) * δ 2) (2 * t) → cg an_P1 ((2 - (an_c1 (cs 1) : Int)) * δ 1 + 4 * δ 2 + (2 - (an_c1 (cs 2) : Int)) * δ 3) (2 * t) → cg an_P1 ((2 - (an_c1 (cs 2) : Int)) * δ 2 + 4 * δ 3 + (2 - (an_c1 (cs 3) : Int)) * δ 4) (2 * t) → cg an_P1 ((2 - (an_c1 (cs 3) : Int)) * δ 3 + 4 * δ 4 + (2 - (an_c1 (cs 4) : Int)) * δ 5) (2 * t) → cg an_P1 ((2 - (an_c1 (cs 4) : Int)) * δ 4 + 4 * δ 5 + (2 - (an_c1 (cs 5) : Int)) * δ 6) (2 * t) → cg an_P1 ((2 - (an_c1 (cs 5) : Int)) * δ 5 + 4 * δ 6 + (2 - (an_c1 (cs 6) : Int)) * δ 7) (2 * t) → cg an_P1 ((2 - (an_c1 (cs 6) : Int)) * δ 6 + 4 * δ 7 + (2 - (an_c1 (cs 7) : Int)) * δ 0) (2 * t) → ∀ i, i < 8 → cg an_P1 (δ i) 0 := by
    intro δ t ht e0 e1 e2 e3 e4 e5 e6 e7
    obtain ⟨A, A0⟩ := AR3 (L 1 (by decide)) (L 2 (by decide)) (Z 0 (by decide)) (Z 1 (by decide)) (Z 2 (by decide)) (Z 3 (by decide)) e1 e2 e3
    have sw : ∀ {x y z u : Int}, cg an_P1 (x + y + z) u → cg an_P1 (z + y + x) u := fun {x y z u} hh => by rw [show z + y + x = x + y + z by omega]; exact hh
    obtain ⟨B, B0⟩ := AR3 (L 6 (by decide)) (L 5 (by decide)) (Z 7 (by decide)) (Z 6 (by decide)) (Z 5 (by decide)) (Z 4 (by decide)) (sw e7) (sw e6) (sw e5)
    have hd : psu (xa (ya (kk3 (9 * lbi (cs 1) + lbi (cs 2))) (dv (lbi (cs 0))) (dv (lbi (cs 3))))) (ya (kk3 (9 * lbi (cs 6) + lbi (cs 5))) (dv (lbi (cs 7))) (dv (lbi (cs 4)))) % 2147478481 ≠ 0 := by
      have l1 := L 1 (by decide)
      have l2 := L 2 (by decide)
      have l5 := L 5 (by decide)
      have l6 := L 6 (by decide)
      have ex : ∀ lo, lo = 9 * lbi (cs 1) → ¬ (lo + lbi (cs 2) = 10 ∧ lbi (cs 0) = 1 ∧ lbi (cs 3) = 1 ∧ 9 * lbi (cs 6) + lbi (cs 5) = 10 ∧ lbi (cs 7) = 1 ∧ lbi (cs 4) = 1) := by
        intro lo hlo ⟨x1, x2, x3, x4, x5, x6⟩
        apply hx
        intro j hj
        have : j = 0 ∨ j = 1 ∨ j = 2 ∨ j = 3 ∨ j = 4 ∨ j = 5 ∨ j = 6 ∨ j = 7 := by omega
        rcases this with e | e | e | e | e | e | e | e <;> subst e <;> refine lbi_2 (hcs _ (by decide)) ?_
        · exact x2
        · omega
        · omega
        · exact x3
        · exact x6
        · omega
        · omega
        · exact x5
      have q : ∀ lo, lo = 9 * lbi (cs 1) → pdt kk3 kk3 81 10 10 lo 9 = true → psu (xa (ya (kk3 (9 * lbi (cs 1) + lbi (cs 2))) (dv (lbi (cs 0))) (dv (lbi (cs 3))))) (ya (kk3 (9 * lbi (cs 6) + lbi (cs 5))) (dv (lbi (cs 7))) (dv (lbi (cs 4)))) % 2147478481 ≠ 0 := fun lo hlo hp => by
        have r := pdt_of hp l2 (L 0 (by decide)) (L 3 (by decide)) (show 9 * lbi (cs 6) + lbi (cs 5) < 81 by omega) (L 7 (by decide)) (L 4 (by decide)) (ex lo hlo)
        rw [hlo] at r
        exact r
      have c : lbi (cs 1) = 0 ∨ lbi (cs 1) = 1 ∨ lbi (cs 1) = 2 ∨ lbi (cs 1) = 3 ∨ lbi (cs 1) = 4 ∨ lbi (cs 1) = 5 ∨ lbi (cs 1) = 6 ∨ lbi (cs 1) = 7 ∨ lbi (cs 1) = 8 := by omega
      rcases c with c | c | c | c | c | c | c | c | c
      · exact q 0 (by omega) dt_88_0
      · exact q 9 (by omega) dt_88_1
      · exact q 18 (by omega) dt_88_2
      · exact q 27 (by omega) dt_88_3
      · exact q 36 (by omega) dt_88_4
      · exact q 45 (by omega) dt_88_5
      · exact q 54 (by omega) dt_88_6
      · exact q 63 (by omega) dt_88_7
      · exact q 72 (by omega) dt_88_8
    have st : δ 0 + δ 4 + (δ 1 + δ 2 + δ 3) + (δ 7 + δ 6 + δ 5) = t := by
      rw [ht]
      show _ = 0 + δ 0 + δ 1 + δ 2 + δ 3 + δ 4 + δ 5 + δ 6 + δ 7
      omega
    obtain ⟨r1, r2, r3⟩ := two_nz A B (by rw [show 4 * δ 0 + (2 - (an_c1 (cs 0) : Int)) * δ 1 + (2 - (an_c1 (cs 7) : Int)) * δ 7 = (2 - (an_c1 (cs 7) : Int)) * δ 7 + 4 * δ 0 + (2 - (an_c1 (cs 0) : Int)) * δ 1 by omega]; exact e0) (by rw [show 4 * δ 4 + (2 - (an_c1 (cs 3) : Int)) * δ 3 + (2 - (an_c1 (cs 4) : Int)) * δ 5 = (2 - (an_c1 (cs 3) : Int)) * δ 3 + 4 * δ 4 + (2 - (an_c1 (cs 4) : Int)) * δ 5 by omega]; exact e4) (by rw [st]; exact cg_refl _ _) hd
    obtain ⟨a1, a2, a3⟩ := A0 r1 r2 r3
    obtain ⟨b1, b2, b3⟩ := B0 r1 r2 r3
    intro i hi
    have : i = 0 ∨ i = 1 ∨ i = 2 ∨ i = 3 ∨ i = 4 ∨ i = 5 ∨ i = 6 ∨ i = 7 := by omega
    rcases this with e | e | e | e | e | e | e | e <;> subst e
    · exact r1
    · exact a1
    · exact a2
    · exact a3
    · exact r2
    · exact b3
    · exact b2
    · exact b1
  intro i hi
  exact cg_d0 (key (fun i => (dn 8 cs w i : Int) - dn 8 cs w' i) _ rfl e0 e1 e2 e3 e4 e5 e6 e7 i hi)
theorem VN_7 {cs : Nat → Nat} (hcs : ∀ j, j < 7 → cs j < 10 ∧ cs j ≠ 1) : VN 7 cs := by
  intro w w' hw hw' h
  have E := fun j (hj : j < 7) => dv_dn (by decide) (by decide) hw hw' h hj
  have e0 := E 0 (by decide)
  have e1 := E 1 (by decide)
  have e2 := E 2 (by decide)
  have e3 := E 3 (by decide)
  have e4 := E 4 (by decide)
  have e5 := E 5 (by decide)
  have e6 := E 6 (by decide)
  have L := fun j (hj : j < 7) => lbi_9 hcs hj
  have Z := fun j (hj : j < 7) => dv_rz (hcs j hj)
  have key : ∀ (δ : Nat → Int) (t : Int), t = sI δ 7 → cg an_P1 ((2 - (an_c1 (cs 6) : Int)) * δ 6 + 4 * δ 0 + (2 - (an_c1 (cs 0) : Int)) * δ 1) (2 * t) → cg an_P1 ((2 - (an_c1 (cs 0) : Int)) * δ 0 + 4 * δ 1 + (2 - (an_c1 (cs 1) : Int)) * δ 2) (2 * t) → cg an_P1 ((2 - (an_c1 (cs 1) : Int)) * δ 1 + 4 * δ 2 + (2 - (an_c1 (cs 2) : Int)) * δ 3) (2 * t) → cg an_P1 ((2 - (an_c1 (cs 2) : Int)) * δ 2 + 4 * δ 3 + (2 - (an_c1 (cs 3) : Int)) * δ 4) (2 * t) → cg an_P1 ((2 - (an_c1 (cs 3) : Int)) * δ 3 + 4 * δ 4 + (2 - (an_c1 (cs 4) : Int)) * δ 5) (2 * t) → cg an_P1 ((2 - (an_c1 (cs 4) : Int)) * δ 4 + 4 * δ 5 + (2 - (an_c1 (cs 5) : Int)) * δ 6) (2 * t) → cg an_P1 ((2 - (an_c1 (cs 5) : Int)) * δ 5 + 4 * δ 6 + (2 - (an_c1 (cs 6) : Int)) * δ 0) (2 * t) → ∀ i, i < 7 → cg an_P1 (δ i) 0 := by
    intro δ t ht e0 e1 e2 e3 e4 e5 e6
    obtain ⟨A, A0⟩ := AR3 (L 1 (by decide)) (L 2 (by decide)) (Z 0 (by decide)) (Z 1 (by decide)) (Z 2 (by decide)) (Z 3 (by decide)) e1 e2 e3
    have sw : ∀ {x y z u : Int}, cg an_P1 (x + y + z) u → cg an_P1 (z + y + x) u := fun {x y z u} hh => by rw [show z + y + x = x + y + z by omega]; exact hh
    obtain ⟨B, B0⟩ := AR2 (L 5 (by decide)) (Z 6 (by decide)) (Z 5 (by decide)) (Z 4 (by decide)) (sw e6) (sw e5)
    have hd : psu (xa (ya (kk3 (9 * lbi (cs 1) + lbi (cs 2))) (dv (lbi (cs 0))) (dv (lbi (cs 3))))) (ya (kk2 (lbi (cs 5))) (dv (lbi (cs 6))) (dv (lbi (cs 4)))) % 2147478481 ≠ 0 := by
      have l1 := L 1 (by decide)
      have l2 := L 2 (by decide)
      have r := pdt_of dt_76 (I := 9 * lbi (cs 1) + lbi (cs 2)) (by omega) (L 0 (by decide)) (L 3 (by decide)) (L 5 (by decide)) (L 6 (by decide)) (L 4 (by decide)) (by omega)
      rw [Nat.zero_add] at r
      exact r
    have st : δ 0 + δ 4 + (δ 1 + δ 2 + δ 3) + (δ 6 + δ 5) = t := by
      rw [ht]
      show _ = 0 + δ 0 + δ 1 + δ 2 + δ 3 + δ 4 + δ 5 + δ 6
      omega
    obtain ⟨r1, r2, r3⟩ := two_nz A B (by rw [show 4 * δ 0 + (2 - (an_c1 (cs 0) : Int)) * δ 1 + (2 - (an_c1 (cs 6) : Int)) * δ 6 = (2 - (an_c1 (cs 6) : Int)) * δ 6 + 4 * δ 0 + (2 - (an_c1 (cs 0) : Int)) * δ 1 by omega]; exact e0) (by rw [show 4 * δ 4 + (2 - (an_c1 (cs 3) : Int)) * δ 3 + (2 - (an_c1 (cs 4) : Int)) * δ 5 = (2 - (an_c1 (cs 3) : Int)) * δ 3 + 4 * δ 4 + (2 - (an_c1 (cs 4) : Int)) * δ 5 by omega]; exact e4) (by rw [st]; exact cg_refl _ _) hd
    obtain ⟨a1, a2, a3⟩ := A0 r1 r2 r3
    obtain ⟨b1, b2⟩ := B0 r1 r2 r3
    intro i hi
    have : i = 0 ∨ i = 1 ∨ i = 2 ∨ i = 3 ∨ i = 4 ∨ i = 5 ∨ i = 6 := by omega
    rcases this with e | e | e | e | e | e | e <;> subst e
    · exact r1
    · exact a1
    · exact a2
    · exact a3
    · exact r2
    · exact b2
    · exact b1
  intro i hi
  exact cg_d0 (key (fun i => (dn 7 cs w i : Int) - dn 7 cs w' i) _ rfl e0 e1 e2 e3 e4 e5 e6 i hi)
theorem VN_6 {cs : Nat → Nat} (hcs : ∀ j, j < 6 → cs j < 10 ∧ cs j ≠ 1) (hx : ¬ ∀ j, j < 6 → cs j = 2) : VN 6 cs := by
  intro w w' hw hw' h
  have E := fun j (hj : j < 6) => dv_dn (by decide) (by decide) hw hw' h hj
  have e0 := E 0 (by decide)
  have e1 := E 1 (by decide)
  have e2 := E 2 (by decide)
  have e3 := E 3 (by decide)
  have e4 := E 4 (by decide)
  have e5 := E 5 (by decide)
  have L := fun j (hj : j < 6) => lbi_9 hcs hj
  have Z := fun j (hj : j < 6) => dv_rz (hcs j hj)
  have key : ∀ (δ : Nat → Int) (t : Int), t = sI δ 6 → cg an_P1 ((2 - (an_c1 (cs 5) : Int)) * δ 5 + 4 * δ 0 + (2 - (an_c1 (cs 0) : Int)) * δ 1) (2 * t) → cg an_P1 ((2 - (an_c1 (cs 0) : Int)) * δ 0 + 4 * δ 1 + (2 - (an_c1 (cs 1) : Int)) * δ 2) (2 * t) → cg an_P1 ((2 - (an_c1 (cs 1) : Int)) * δ 1 + 4 * δ 2 + (2 - (an_c1 (cs 2) : Int)) * δ 3) (2 * t) → cg an_P1 ((2 - (an_c1 (cs 2) : Int)) * δ 2 + 4 * δ 3 + (2 - (an_c1 (cs 3) : Int)) * δ 4) (2 * t) → cg an_P1 ((2 - (an_c1 (cs 3) : Int)) * δ 3 + 4 * δ 4 + (2 - (an_c1 (cs 4) : Int)) * δ 5) (2 * t) → cg an_P1 ((2 - (an_c1 (cs 4) : Int)) * δ 4 + 4 * δ 5 + (2 - (an_c1 (cs 5) : Int)) * δ 0) (2 * t) → ∀ i, i < 6 → cg an_P1 (δ i) 0 := by
    intro δ t ht e0 e1 e2 e3 e4 e5
    obtain ⟨A, A0⟩ := AR2 (L 1 (by decide)) (Z 0 (by decide)) (Z 1 (by decide)) (Z 2 (by decide)) e1 e2
    have sw : ∀ {x y z u : Int}, cg an_P1 (x + y + z) u → cg an_P1 (z + y + x) u := fun {x y z u} hh => by rw [show z + y + x = x + y + z by omega]; exact hh
    obtain ⟨B, B0⟩ := AR2 (L 4 (by decide)) (Z 5 (by decide)) (Z 4 (by decide)) (Z 3 (by decide)) (sw e5) (sw e4)
    have hd : psu (xa (ya (kk2 (lbi (cs 1))) (dv (lbi (cs 0))) (dv (lbi (cs 2))))) (ya (kk2 (lbi (cs 4))) (dv (lbi (cs 5))) (dv (lbi (cs 3)))) % 2147478481 ≠ 0 := by
      have r := pdt_of dt_66 (L 1 (by decide)) (L 0 (by decide)) (L 2 (by decide)) (L 4 (by decide)) (L 5 (by decide)) (L 3 (by decide)) (by
        intro ⟨x1, x2, x3, x4, x5, x6⟩
        apply hx
        intro j hj
        have : j = 0 ∨ j = 1 ∨ j = 2 ∨ j = 3 ∨ j = 4 ∨ j = 5 := by omega
        rcases this with e | e | e | e | e | e <;> subst e <;> refine lbi_2 (hcs _ (by decide)) ?_ <;> omega)
      rw [Nat.zero_add] at r
      exact r
    have st : δ 0 + δ 3 + (δ 1 + δ 2) + (δ 5 + δ 4) = t := by
      rw [ht]
      show _ = 0 + δ 0 + δ 1 + δ 2 + δ 3 + δ 4 + δ 5
      omega
    obtain ⟨r1, r2, r3⟩ := two_nz A B (by rw [show 4 * δ 0 + (2 - (an_c1 (cs 0) : Int)) * δ 1 + (2 - (an_c1 (cs 5) : Int)) * δ 5 = (2 - (an_c1 (cs 5) : Int)) * δ 5 + 4 * δ 0 + (2 - (an_c1 (cs 0) : Int)) * δ 1 by omega]; exact e0) (by rw [show 4 * δ 3 + (2 - (an_c1 (cs 2) : Int)) * δ 2 + (2 - (an_c1 (cs 3) : Int)) * δ 4 = (2 - (an_c1 (cs 2) : Int)) * δ 2 + 4 * δ 3 + (2 - (an_c1 (cs 3) : Int)) * δ 4 by omega]; exact e3) (by rw [st]; exact cg_refl _ _) hd
    obtain ⟨a1, a2⟩ := A0 r1 r2 r3
    obtain ⟨b1, b2⟩ := B0 r1 r2 r3
    intro i hi
    have : i = 0 ∨ i = 1 ∨ i = 2 ∨ i = 3 ∨ i = 4 ∨ i = 5 := by omega
    rcases this with e | e | e | e | e | e <;> subst e
    · exact r1
    · exact a1
    · exact a2
    · exact r2
    · exact b2
    · exact b1
  intro i hi
  exact cg_d0 (key (fun i => (dn 6 cs w i : Int) - dn 6 cs w' i) _ rfl e0 e1 e2 e3 e4 e5 i hi)
