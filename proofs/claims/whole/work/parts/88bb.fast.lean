/-! ===== paths whose instructions are told: plain ones (0), reads of the script (1) ===== -/
abbrev iy_I : Type := Nat × Nat × Nat × Instr × Nat
def iy_rd (S : Option (Nat × (Nat → Int32))) (c : ij_C) (ins : Instr) : Option (List Prop × ij_C) := match S, ins, c.2.2.1 with
  | some (SL, xs), .iaload, .int i :: .ref 1000 :: r => some ([vp_in i SL], c.1 + 1, c.2.1, .int (xs i.toNatClampNeg) :: r, c.2.2.2)
  | some (SL, _), .arraylength, .ref 1000 :: r => some ([], c.1 + 1, c.2.1, .int (Int32.ofNat SL) :: r, c.2.2.2)
  | _, _, _ => none
def iy_p1 (P : ij_P) (K : ij_Ks) (mi : Nat) (S : Option (Nat × (Nat → Int32))) (e : iy_I) (c : ij_C) : Option (List Prop × ij_C) := match e.1 with
  | 0 => ij_ins P K mi e.2.1 c.1 c.2.1 c.2.2.1 c.2.2.2 e.2.2.2.1
  | _ => iy_rd S c e.2.2.2.1
def iy_pl (P : ij_P) (K : ij_Ks) (mi : Nat) (S : Option (Nat × (Nat → Int32))) : List iy_I → ij_C → Option (List Prop × ij_C)
  | [], c => some ([], c)
  | e :: es, c => bif Nat.beq c.1 e.2.2.1 then (iy_p1 P K mi S e c).bind (fun z => (iy_pl P K mi S es z.2).bind (fun y => some (z.1 ++ y.1, y.2))) else none
def iy_pk (P : ij_P) (mi : Nat) (es : List iy_I) : Bool := es.all (fun e => decide (ij_dc P mi e.2.2.1 = some e.2.2.2) && (Nat.beq e.1 0 || Nat.beq e.2.2.2.2 1))
theorem iy_rd_ok {P : ij_P} {M : ij_M} {T : ix_T} {Z : iy_D} {nf : Nat → Nat} {RC RS : Nat} {C1 : ij_Ks → ij_R} {C2 : ij_Ks → ix_R} {C3 : iy_R} {S : Option (Nat × (Nat → Int32))} {mi u v : Nat} {K : ij_Ks} {c : ij_C} {ins : Instr} {z : List Prop × ij_C} (h : iy_rd S c ins = some z) (hφ : ij_all z.1) (hd : ij_dc P mi c.1 = some (ins, 1)) : iy_st P M T Z nf RC RS C1 C2 C3 S mi u v K c u v K z.2 := by
  obtain ⟨pc9, L9, st9, σ9⟩ := c
  unfold iy_rd at h
  dsimp only at h hd
  split at h
  · rename_i SL xs i r
    cases h
    exact Or.inr (Or.inr (Or.inr (Or.inr (Or.inr (Or.inr (Or.inr (Or.inr (Or.inl ⟨i, r, SL, xs, rfl, hd, rfl, hφ, rfl, rfl, rfl, rfl⟩))))))))
  · rename_i SL xs r
    cases h
    exact Or.inr (Or.inr (Or.inr (Or.inr (Or.inr (Or.inr (Or.inr (Or.inr (Or.inr (Or.inl ⟨r, SL, xs, rfl, hd, rfl, rfl, rfl, rfl, rfl⟩)))))))))
  · cases h
theorem iy_G_pl {P : ij_P} {M : ij_M} {T : ix_T} {Z : iy_D} {nf : Nat → Nat} {RC RS : Nat} {C1 : ij_Ks → ij_R} {C2 : ij_Ks → ix_R} {C3 : iy_R} {S : Option (Nat × (Nat → Int32))} {mi u v : Nat} {K : ij_Ks} : ∀ (es : List iy_I) {c z : ij_C} {q' : iy_X} {φ : List Prop}, iy_pk P mi es = true → iy_pl P K mi S es c = some (φ, z) → ij_all φ → iy_G P M T Z nf RC RS C1 C2 C3 S mi (u, v, K, z) q' → iy_G P M T Z nf RC RS C1 C2 C3 S mi (u, v, K, c) q' := by
  intro es
  induction es with
  | nil => intro c z q' φ _ h _ hg; cases h; exact hg
  | cons e es ih =>
    intro c z q' φ hk h hφ hg
    have hk : ((decide (ij_dc P mi e.2.2.1 = some e.2.2.2) && (Nat.beq e.1 0 || Nat.beq e.2.2.2.2 1)) && iy_pk P mi es) = true := hk
    rw [Bool.and_eq_true, Bool.and_eq_true, decide_eq_true_eq, Bool.or_eq_true] at hk
    obtain ⟨⟨hd, hb1⟩, hk⟩ := hk
    have h : (bif Nat.beq c.1 e.2.2.1 then (iy_p1 P K mi S e c).bind (fun z => (iy_pl P K mi S es z.2).bind (fun y => some (z.1 ++ y.1, y.2))) else none) = some (φ, z) := h
    cases hb : Nat.beq c.1 e.2.2.1 with
    | false => rw [hb] at h; cases h
    | true =>
      rw [hb, cond_true] at h
      rw [← Nat.eq_of_beq_eq_true hb] at hd
      obtain ⟨z1, hz1, h⟩ := ij_bind h
      obtain ⟨y, hy, h⟩ := ij_bind h
      cases h
      obtain ⟨h1, h2⟩ := ij_all_app hφ
      refine iy_G_st (z := (u, v, K, z1.2)) (Nat.le_refl _) ?_ (ih hk hy h2 hg)
      obtain ⟨kd, b, pc, ins, len⟩ := e
      unfold iy_p1 at hz1
      dsimp only at hz1 hd hb1
      split at hz1
      · exact Or.inl ⟨b, (ins, len), z1, hd, hz1, h1, rfl, rfl, rfl, rfl⟩
      · rename_i hne
        have hl : len = 1 := by
          rcases hb1 with q | q
          · exact absurd (Nat.eq_of_beq_eq_true q) hne
          · exact Nat.eq_of_beq_eq_true q
        subst hl
        exact iy_rd_ok hz1 h1 hd
