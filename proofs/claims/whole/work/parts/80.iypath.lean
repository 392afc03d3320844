/-! ===== runs that make objects, by reckoning ===== -/
abbrev iy_X : Type := Nat × Nat × ij_Ks × ij_C
def iy_xs (P : ij_P) (Z : iy_D) (nf : Nat → Nat) (RC RS : Nat) (S : Option (Nat × (Nat → Int32))) (mi b : Nat) (u v : Nat) (K : ij_Ks) (pc : Nat) (L : ij_L) (st : List Value) (σ : ij_S) (len : Nat) (ins : Instr) : Option (List Prop × iy_X) := match ins with
  | .new i => (iy_pn Z (ij_mo P mi) i).bind (fun ci => if (Nat.beq len 3 && (Nat.blt K.length 1000 && (Nat.ble (u + 1) RC && Nat.ble (v + nf ci) RS))) = true then some ([iy_wf P nf K (pc, L, st, σ) = true], u + 1, v + nf ci, K ++ [.inl (iy_fk Z ci)], pc + 3, L, .ref K.length :: st, iy_z σ K.length) else none)
  | .newarray t => match st with
    | .int n :: r => (iy_at t).bind (fun tc => if (Nat.beq len 2 && (Nat.blt K.length 1000 && (Nat.ble (u + 1) RC && (Nat.ble (v + n.toNatClampNeg) RS && (Nat.ble n.toNatClampNeg 1000000 && decide (¬ n < 0)))))) = true then some ([iy_wf P nf K (pc, L, r, σ) = true], u + 1, v + n.toNatClampNeg, K ++ [.inr (tc, n.toNatClampNeg)], pc + 2, L, .ref K.length :: r, iy_z σ K.length) else none)
    | _ => none
  | .getfield i => match st with
    | .ref a :: r => match K[a]? with
      | some (.inl ki) => (ij_pf P (ij_mo P mi) i).bind (fun q => if (Nat.beq len 3 && (Nat.beq (iy_kc Z ki) q.1 && (iy_nk Z ki b).isSome)) = true then some ([], u, v, K, pc + 3, L, ij_fv P σ ki a q.2 :: r, σ) else none)
      | _ => none
    | _ => none
  | .invokespecial i => match st with
    | .ref _ :: r => if (Nat.beq len 3 && (iy_po Z (ij_mo P mi) i && Nat.ble (ij_cs r) 8)) = true then some ([], u, v, K, pc + 3, L, r, σ) else none
    | _ => none
  | _ => none
/-- a field of an object under way is written -/
def iy_xp (P : ij_P) (Z : iy_D) (mi : Nat) (u v : Nat) (K : ij_Ks) (pc : Nat) (L : ij_L) (st : List Value) (σ : ij_S) (len : Nat) (ins : Instr) : Option (List Prop × iy_X) := match ins, st with
  | .putfield i, w :: .ref a :: r => match K[a]? with
    | some (.inl ki) => (ij_pf P (ij_mo P mi) i).bind (fun q => (iy_nk Z ki q.2).bind (fun k2 => (iy_put σ a q.2 (ij_ft P q.1 q.2) w).bind (fun σ' => if (Nat.beq len 3 && (Nat.beq q.1 (ij_mo P mi) && Nat.beq (iy_kc Z ki) q.1)) = true then some ([], u, v, K.set a (.inl k2), pc + 3, L, r, σ') else none)))
    | _ => none
  | _, _ => none
/-- the script is read -/
def iy_xr (S : Option (Nat × (Nat → Int32))) (u v : Nat) (K : ij_Ks) (pc : Nat) (L : ij_L) (st : List Value) (σ : ij_S) (len : Nat) (ins : Instr) : Option (List Prop × iy_X) := match S, ins, st with
  | some (SL, xs), .iaload, .int i :: .ref 1000 :: r => if Nat.beq len 1 = true then some ([vp_in i SL], u, v, K, pc + 1, L, .int (xs i.toNatClampNeg) :: r, σ) else none
  | some (SL, _), .arraylength, .ref 1000 :: r => if Nat.beq len 1 = true then some ([], u, v, K, pc + 1, L, .int (Int32.ofNat SL) :: r, σ) else none
  | _, _, _ => none
def iy_xi (P : ij_P) (K : ij_Ks) (mi b u v pc : Nat) (L : ij_L) (st : List Value) (σ : ij_S) (ins : Instr) : Option (List Prop × iy_X) := (ij_ins P K mi b pc L st σ ins).map (fun z => (z.1, u, v, K, z.2))
def iy_x (P : ij_P) (Z : iy_D) (nf : Nat → Nat) (RC RS : Nat) (S : Option (Nat × (Nat → Int32))) (mi b : Nat) (q : iy_X) : Option (List Prop × iy_X) :=
  (ij_dc P mi q.2.2.2.1).bind (fun x => match iy_xp P Z mi q.1 q.2.1 q.2.2.1 q.2.2.2.1 q.2.2.2.2.1 q.2.2.2.2.2.1 q.2.2.2.2.2.2 x.2 x.1 with
    | some z => some z
    | none => match iy_xs P Z nf RC RS S mi b q.1 q.2.1 q.2.2.1 q.2.2.2.1 q.2.2.2.2.1 q.2.2.2.2.2.1 q.2.2.2.2.2.2 x.2 x.1 with
      | some z => some z
      | none => match iy_xr S q.1 q.2.1 q.2.2.1 q.2.2.2.1 q.2.2.2.2.1 q.2.2.2.2.2.1 q.2.2.2.2.2.2 x.2 x.1 with
        | some z => some z
        | none => iy_xi P q.2.2.1 mi b q.1 q.2.1 q.2.2.2.1 q.2.2.2.2.1 q.2.2.2.2.2.1 q.2.2.2.2.2.2 x.1)
def iy_px (P : ij_P) (Z : iy_D) (nf : Nat → Nat) (RC RS : Nat) (S : Option (Nat × (Nat → Int32))) (mi : Nat) : List Nat → iy_X → Option (List Prop × iy_X)
  | [], q => some ([], q)
  | b :: bs, q => (iy_x P Z nf RC RS S mi b q).bind (fun z => (iy_px P Z nf RC RS S mi bs z.2).bind (fun y => some (z.1 ++ y.1, y.2)))
section IYP
variable {P : ij_P} {M : ij_M} {T : ix_T} {Z : iy_D} {nf : Nat → Nat} {RC RS : Nat} {C1 : ij_Ks → ij_R} {C2 : ij_Ks → ix_R} {C3 : iy_R} {S : Option (Nat × (Nat → Int32))} {mi : Nat}
theorem iy_x_ok {b : Nat} {q z : iy_X} {φ : List Prop} (h : iy_x P Z nf RC RS S mi b q = some (φ, z)) (hφ : ij_all φ) : q.2.2.1.length ≤ z.2.2.1.length ∧ iy_st P M T Z nf RC RS C1 C2 C3 S mi q.1 q.2.1 q.2.2.1 q.2.2.2 z.1 z.2.1 z.2.2.1 z.2.2.2 := by
  obtain ⟨u, v, K, pc, L, st, σ⟩ := q
  unfold iy_x at h
  obtain ⟨⟨ins, len⟩, hdc, h⟩ := ij_bind h
  dsimp only at h hdc
  split at h
  · rename_i z9 hz
    cases h
    unfold iy_xp at hz
    split at hz
    · rename_i i w a r
      split at hz
      · rename_i ki hK
        obtain ⟨q, hq, hz⟩ := ij_bind hz
        obtain ⟨k2, hk, hz⟩ := ij_bind hz
        obtain ⟨σ', hs, hz⟩ := ij_bind hz
        split at hz
        · rename_i hc
          cases hz
          simp only [Bool.and_eq_true] at hc
          obtain rfl := ij_beq hc.1
          exact ⟨by simp, Or.inr (Or.inr (Or.inr (Or.inr (Or.inr (Or.inl ⟨i, w, a, r, ki, k2, q, σ', hdc, rfl, hK, hq, ij_beq hc.2.1, ij_beq hc.2.2, hk, hs, rfl, rfl, rfl, rfl⟩)))))⟩
        · cases hz
      · cases hz
    · cases hz
  · rename_i hn1
    clear hn1
    split at h
    · rename_i z9 hz
      cases h
      unfold iy_xs at hz
      split at hz
      · rename_i i
        obtain ⟨ci, hci, hz⟩ := ij_bind hz
        split at hz
        · rename_i hc
          cases hz
          simp only [Bool.and_eq_true] at hc
          obtain ⟨c1, c3, c4, c5⟩ := hc
          have c2 := hφ
          obtain rfl := ij_beq c1
          exact ⟨by simp, Or.inr (Or.inr (Or.inr (Or.inl ⟨i, ci, hdc, hci, c2, Nat.le_of_ble_eq_true c3, Nat.le_of_ble_eq_true c4, Nat.le_of_ble_eq_true c5, rfl, rfl, rfl, rfl⟩)))⟩
        · cases hz
      · rename_i t
        split at hz
        · rename_i n r
          obtain ⟨tc, htc, hz⟩ := ij_bind hz
          split at hz
          · rename_i hc
            cases hz
            simp only [Bool.and_eq_true, decide_eq_true_eq] at hc
            obtain ⟨c1, c3, c4, c5, c6, c7⟩ := hc
            have c2 := hφ
            obtain rfl := ij_beq c1
            exact ⟨by simp, Or.inr (Or.inr (Or.inr (Or.inr (Or.inl ⟨t, tc, n, r, hdc, htc, rfl, c7, Nat.le_of_ble_eq_true c6, c2, Nat.le_of_ble_eq_true c3, Nat.le_of_ble_eq_true c4, Nat.le_of_ble_eq_true c5, rfl, rfl, rfl, rfl⟩))))⟩
          · cases hz
        · cases hz
      · rename_i i
        split at hz
        · rename_i a r
          split at hz
          · rename_i ki hKa
            obtain ⟨q, hq, hz⟩ := ij_bind hz
            split at hz
            · rename_i hc
              cases hz
              simp only [Bool.and_eq_true] at hc
              obtain ⟨c1, c2, c3⟩ := hc
              obtain rfl := ij_beq c1
              obtain ⟨k2, hk2⟩ := Option.isSome_iff_exists.mp c3
              exact ⟨Nat.le_refl _, Or.inr (Or.inr (Or.inr (Or.inr (Or.inr (Or.inr (Or.inr (Or.inr (Or.inr (Or.inr (Or.inr ⟨i, a, r, ki, b, k2, q, hdc, rfl, hKa, hq, ij_beq c2, hk2, rfl, rfl, rfl, rfl⟩))))))))))⟩
            · cases hz
          · cases hz
        · cases hz
      · rename_i i
        split at hz
        · rename_i a r
          split at hz
          · rename_i hc
            cases hz
            simp only [Bool.and_eq_true] at hc
            obtain ⟨c1, c2, c3⟩ := hc
            obtain rfl := ij_beq c1
            exact ⟨Nat.le_refl _, Or.inr (Or.inr (Or.inr (Or.inr (Or.inr (Or.inr (Or.inl ⟨i, a, r, hdc, c2, rfl, Nat.le_of_ble_eq_true c3, rfl, rfl, rfl, rfl⟩))))))⟩
          · cases hz
        · cases hz
      · cases hz
    · rename_i hn2
      clear hn2
      split at h
      · rename_i z9 hz
        cases h
        unfold iy_xr at hz
        split at hz
        · rename_i SL xs i r
          split at hz
          · rename_i hc
            cases hz
            obtain rfl := ij_beq hc
            exact ⟨Nat.le_refl _, Or.inr (Or.inr (Or.inr (Or.inr (Or.inr (Or.inr (Or.inr (Or.inr (Or.inl ⟨i, r, SL, xs, rfl, hdc, rfl, hφ, rfl, rfl, rfl, rfl⟩))))))))⟩
          · cases hz
        · rename_i SL xs r
          split at hz
          · rename_i hc
            cases hz
            obtain rfl := ij_beq hc
            exact ⟨Nat.le_refl _, Or.inr (Or.inr (Or.inr (Or.inr (Or.inr (Or.inr (Or.inr (Or.inr (Or.inr (Or.inl ⟨r, SL, xs, rfl, hdc, rfl, rfl, rfl, rfl, rfl⟩)))))))))⟩
          · cases hz
        · cases hz
      · unfold iy_xi at h
        obtain ⟨z9, hz, h⟩ := Option.map_eq_some_iff.mp h
        cases h
        exact ⟨Nat.le_refl _, Or.inl ⟨b, (ins, len), z9, hdc, hz, hφ, rfl, rfl, rfl, rfl⟩⟩
/-- from here to there -/
def iy_G (P : ij_P) (M : ij_M) (T : ix_T) (Z : iy_D) (nf : Nat → Nat) (RC RS : Nat) (C1 : ij_Ks → ij_R) (C2 : ij_Ks → ix_R) (C3 : iy_R) (S : Option (Nat × (Nat → Int32))) (mi : Nat) (q q' : iy_X) : Prop := ∃ n, iy_to P M T Z nf RC RS C1 C2 C3 S mi n q.1 q.2.1 q.2.2.1 q.2.2.2 q'.1 q'.2.1 q'.2.2.1 q'.2.2.2
theorem iy_G_rf {q : iy_X} : iy_G P M T Z nf RC RS C1 C2 C3 S mi q q := ⟨0, rfl, rfl, rfl, rfl⟩
theorem iy_G_st {q z q' : iy_X} (hl : q.2.2.1.length ≤ z.2.2.1.length) (h : iy_st P M T Z nf RC RS C1 C2 C3 S mi q.1 q.2.1 q.2.2.1 q.2.2.2 z.1 z.2.1 z.2.2.1 z.2.2.2) (hg : iy_G P M T Z nf RC RS C1 C2 C3 S mi z q') : iy_G P M T Z nf RC RS C1 C2 C3 S mi q q' := by
  obtain ⟨n, hn⟩ := hg
  exact ⟨n + 1, z.1, z.2.1, z.2.2.1, z.2.2.2, hl, h, hn⟩
theorem iy_G_tr : ∀ {n : Nat} {q z q' : iy_X}, iy_to P M T Z nf RC RS C1 C2 C3 S mi n q.1 q.2.1 q.2.2.1 q.2.2.2 z.1 z.2.1 z.2.2.1 z.2.2.2 → iy_G P M T Z nf RC RS C1 C2 C3 S mi z q' → iy_G P M T Z nf RC RS C1 C2 C3 S mi q q' := by
  intro n
  induction n with
  | zero =>
    intro q z q' h hg
    obtain ⟨u, v, K, c⟩ := q
    obtain ⟨u', v', K', c'⟩ := z
    obtain ⟨h1, h2, h3, h4⟩ := h
    dsimp only at h1 h2 h3 h4
    subst h1; subst h2; subst h3; subst h4
    exact hg
  | succ n ih =>
    intro q z q' h hg
    obtain ⟨u1, v1, K1, q1, hl, hs, h⟩ := h
    exact iy_G_st (z := (u1, v1, K1, q1)) hl hs (ih (q := (u1, v1, K1, q1)) h hg)
theorem iy_G_trans {q z q' : iy_X} (h : iy_G P M T Z nf RC RS C1 C2 C3 S mi q z) (hg : iy_G P M T Z nf RC RS C1 C2 C3 S mi z q') : iy_G P M T Z nf RC RS C1 C2 C3 S mi q q' := h.elim fun _ h => iy_G_tr h hg
theorem iy_G_path : ∀ (bs : List Nat) {q z q' : iy_X} {φ : List Prop}, iy_px P Z nf RC RS S mi bs q = some (φ, z) → ij_all φ → iy_G P M T Z nf RC RS C1 C2 C3 S mi z q' → iy_G P M T Z nf RC RS C1 C2 C3 S mi q q' := by
  intro bs
  induction bs with
  | nil => intro q z q' φ h _ hg; cases h; exact hg
  | cons b bs ih =>
    intro q z q' φ h hφ hg
    obtain ⟨z1, hz1, h⟩ := ij_bind h
    obtain ⟨y, hy, h⟩ := ij_bind h
    cases h
    obtain ⟨h1, h2⟩ := ij_all_app hφ
    obtain ⟨g1, g2⟩ := iy_x_ok (M := M) (T := T) (C1 := C1) (C2 := C2) (C3 := C3) hz1 h1
    exact iy_G_st g1 g2 (ih hy h2 hg)
/-- a call that throws nothing and makes nothing -/
theorem iy_G_c1 {u v pc : Nat} {K : ij_Ks} {L : ij_L} {st as r : List Value} {σ σ' : ij_S} {x : Instr × Nat} {j : Nat} {w : Option Value} {q' : iy_X} (hx : ij_dc P mi pc = some x) (hc : ij_cal P M K mi st x.1 = some (j, as, r)) (hm : ix_mh T j = []) (hC : C1 K j as σ w σ') (hu : u ≤ RC) (hv : v ≤ RS)
    (hg : iy_G P M T Z nf RC RS C1 C2 C3 S mi (u, v, K, pc + 3, L, w.toList ++ r, σ') q') : iy_G P M T Z nf RC RS C1 C2 C3 S mi (u, v, K, pc, L, st, σ) q' :=
  iy_G_st (z := (u, v, K, pc + 3, L, w.toList ++ r, σ')) (Nat.le_refl _) (Or.inr (Or.inl ⟨x, j, as, r, w, σ', hx, hc, hm, hC, hu, hv, rfl, rfl, rfl, rfl⟩)) hg
/-- a call that may throw, and doesn't -/
theorem iy_G_c2 {u v pc : Nat} {K : ij_Ks} {L : ij_L} {st as r : List Value} {σ σ' : ij_S} {x : Instr × Nat} {j : Nat} {w : Option Value} {q' : iy_X} (hx : ij_dc P mi pc = some x) (hc : ij_cal P M K mi st x.1 = some (j, as, r)) (hC : C2 K j as σ (.inl w) σ') (hu : u + ix_co T j ≤ RC) (hv : v + 6 * ix_co T j ≤ RS)
    (hg : iy_G P M T Z nf RC RS C1 C2 C3 S mi (u + ix_co T j, v + 6 * ix_co T j, K, pc + 3, L, w.toList ++ r, σ') q') : iy_G P M T Z nf RC RS C1 C2 C3 S mi (u, v, K, pc, L, st, σ) q' :=
  iy_G_st (z := (u + ix_co T j, v + 6 * ix_co T j, K, pc + 3, L, w.toList ++ r, σ')) (Nat.le_refl _) (Or.inr (Or.inr (Or.inl ⟨x, j, as, r, w, σ', hx, hc, hC, hu, hv, rfl, rfl, rfl, rfl⟩))) hg
/-- a constructor -/
theorem iy_G_c3 {u v pc : Nat} {K K1 : ij_Ks} {L : ij_L} {st r : List Value} {σ τ : ij_S} {i j b : Nat} {q' : iy_X} (hx : ij_dc P mi pc = some (.invokespecial i, 3)) (hj : iy_pc Z (ij_mo P mi) i = some j) (h1 : (st.take (ij_mn M j)).length = ij_mn M j) (h2 : st.drop (ij_mn M j) = .ref b :: r) (h3 : ij_cs r ≤ 8) (hwf : iy_wf P nf K (pc, L, r, σ) = true) (hC : C3 j (.ref b :: (st.take (ij_mn M j)).reverse) K σ K1 τ) (hle : K.length ≤ K1.length) (hu : u + (iy_co Z j).1 ≤ RC) (hv : v + (iy_co Z j).2 ≤ RS)
    (hg : iy_G P M T Z nf RC RS C1 C2 C3 S mi (u + (iy_co Z j).1, v + (iy_co Z j).2, K1, pc + 3, L, r, τ) q') : iy_G P M T Z nf RC RS C1 C2 C3 S mi (u, v, K, pc, L, st, σ) q' :=
  iy_G_st (z := (u + (iy_co Z j).1, v + (iy_co Z j).2, K1, pc + 3, L, r, τ)) hle (Or.inr (Or.inr (Or.inr (Or.inr (Or.inr (Or.inr (Or.inr (Or.inl ⟨i, j, b, r, τ, hx, hj, h1, h2, h3, hwf, hC, hu, hv, rfl, rfl, rfl⟩)))))))) hg
/-- fewer locals -/
theorem iy_G_le {u v pc : Nat} {K : ij_Ks} {L L' : ij_L} {st : List Value} {σ : ij_S} {q' : iy_X} (h : ij_le L' L) (hg : iy_G P M T Z nf RC RS C1 C2 C3 S mi (u, v, K, pc, L', st, σ) q') : iy_G P M T Z nf RC RS C1 C2 C3 S mi (u, v, K, pc, L, st, σ) q' :=
  iy_G_st (z := (u, v, K, pc, L', st, σ)) (Nat.le_refl _) (Or.inr (Or.inr (Or.inr (Or.inr (Or.inr (Or.inr (Or.inr (Or.inr (Or.inr (Or.inr (Or.inl ⟨L', h, rfl, rfl, rfl, rfl⟩))))))))))) hg
/-- every reference leads to a place below n -/
def iy_b (n : Nat) (σ : ij_S) : Prop := ∀ p k, σ.1 p k < n
def iy_pr (a k v : Nat) (σ : ij_S) : ij_S := (ij_u σ.1 a k v, σ.2.1, σ.2.2)
def iy_pi (a k : Nat) (x : Int32) (σ : ij_S) : ij_S := (σ.1, ij_u σ.2.1 a k x, σ.2.2)
theorem iy_b_le {n m : Nat} {σ : ij_S} (h : iy_b n σ) (hn : n ≤ m) : iy_b m σ := fun p k => Nat.lt_of_lt_of_le (h p k) hn
theorem iy_b_z {n p : Nat} {σ : ij_S} (h : iy_b n σ) : iy_b n (iy_z σ p) := h
theorem iy_b_pi {n a k : Nat} {x : Int32} {σ : ij_S} (h : iy_b n σ) : iy_b n (iy_pi a k x σ) := h
theorem iy_b_pr {n a k v : Nat} {σ : ij_S} (h : iy_b n σ) (hv : v < n) : iy_b n (iy_pr a k v σ) := fun p q => by
  show ij_u σ.1 a k v p q < n
  unfold ij_u
  split
  · split
    · exact hv
    · exact h p q
  · exact h p q
theorem iy_wf_of {K : ij_Ks} {n pc : Nat} {L : ij_L} {st : List Value} {σ : ij_S} (hn : n ≤ K.length) (hb : iy_b n σ) (hL : L.all (fun x => match x with
    | some v => iy_vok K.length v
    | none => true) = true) (hst : st.all (iy_vok K.length) = true) : iy_wf P nf K (pc, L, st, σ) = true := by
  unfold iy_wf
  rw [Bool.and_eq_true, Bool.and_eq_true]
  refine ⟨⟨hL, hst⟩, List.all_eq_true.mpr (fun x _ => ?_)⟩
  cases x.1 with
  | inr tn => rfl
  | inl ki =>
    refine List.all_eq_true.mpr (fun k _ => ?_)
    show iy_vok K.length (ij_fv P σ ki x.2 k) = true
    unfold ij_fv
    split
    · rfl
    · show (Nat.blt (σ.1 x.2 k) K.length || Nat.ble 1000 (σ.1 x.2 k)) = true
      rw [Bool.or_eq_true]
      exact Or.inl (Nat.ble_eq_true_of_le (Nat.lt_of_lt_of_le (hb _ _) hn))
    · rfl
    · rfl
end IYP
