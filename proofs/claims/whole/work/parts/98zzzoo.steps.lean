/-! ===== three sides: a board is laid by reckoning (2): vectors, one side ===== -/
noncomputable def ktv (p C1 C2 r s : Nat) : Nat := nst (fl 32 r s) fun x => nst (fl 32 r (Nat.add 4 s)) fun y => Nat.add (pgat 32 (fun j => bif Nat.beq j s then Nat.mod (Nat.sub 2147478481 x) 2147478481 else Nat.mod (Nat.add (fl 32 r j) (Nat.mul (fl 32 C1 (Nat.add (Nat.mul 4 s) j)) x)) 2147478481) p) (Nat.shiftLeft (pgat 32 (fun j => bif Nat.beq j s then Nat.mod (Nat.sub 2147463361 y) 2147463361 else Nat.mod (Nat.add (fl 32 r (Nat.add 4 j)) (Nat.mul (fl 32 C2 (Nat.add (Nat.mul 4 s) j)) y)) 2147463361) p) 128)
/-- what the weights of turning must be -/
def CW (p : Nat) (cs : Nat → Nat) (C1 C2 : Nat) : Prop := ∀ s j, s < p → j < p → j ≠ s → fl 32 C1 (4 * s + j) = an_c1 (an_m p cs s j) ∧ fl 32 C2 (4 * s + j) = an_c2 (an_m p cs s j)
theorem ktv_ok {p C1 C2 r s : Nat} {cs : Nat → Nat} (hp : p ≤ 4) (hC : CW p cs C1 C2) (hs : s < p) {V1 V2 : Nat → Nat} (h : ∀ j, j < p → V1 j = fl 32 r j ∧ V2 j = fl 32 r (4 + j)) : ktv p C1 C2 r s < 2 ^ 256 ∧ ∀ j, j < p → tn_r an_P1 (fun j => an_c1 (an_m p cs s j)) V1 s j = fl 32 (ktv p C1 C2 r s) j ∧ tn_r an_P2 (fun j => an_c2 (an_m p cs s j)) V2 s j = fl 32 (ktv p C1 C2 r s) (4 + j) := by
  have e0 : ktv p C1 C2 r s = pgat 32 (fun j => bif Nat.beq j s then (2147478481 - fl 32 r s) % 2147478481 else (fl 32 r j + fl 32 C1 (4 * s + j) * fl 32 r s) % 2147478481) p + (pgat 32 (fun j => bif Nat.beq j s then (2147463361 - fl 32 r (4 + s)) % 2147463361 else (fl 32 r (4 + j) + fl 32 C2 (4 * s + j) * fl 32 r (4 + s)) % 2147463361) p) <<< 128 := by
    unfold ktv
    rw [nst_eq, nst_eq]
    rfl
  have l1 : ∀ j, j < p → (bif Nat.beq j s then (2147478481 - fl 32 r s) % 2147478481 else (fl 32 r j + fl 32 C1 (4 * s + j) * fl 32 r s) % 2147478481) < 2 ^ 32 := fun j _ => by
    cases Nat.beq j s
    · exact Nat.lt_trans (Nat.mod_lt _ (by decide)) (by decide)
    · exact Nat.lt_trans (Nat.mod_lt _ (by decide)) (by decide)
  have l2 : ∀ j, j < p → (bif Nat.beq j s then (2147463361 - fl 32 r (4 + s)) % 2147463361 else (fl 32 r (4 + j) + fl 32 C2 (4 * s + j) * fl 32 r (4 + s)) % 2147463361) < 2 ^ 32 := fun j _ => by
    cases Nat.beq j s
    · exact Nat.lt_trans (Nat.mod_lt _ (by decide)) (by decide)
    · exact Nat.lt_trans (Nat.mod_lt _ (by decide)) (by decide)
  obtain ⟨g1, g2⟩ := fl_gat p l1
  obtain ⟨k1, k2⟩ := fl_gat p l2
  have p128 : 2 ^ (32 * p) ≤ 2 ^ 128 := Nat.pow_le_pow_right (by decide) (by omega)
  rw [e0]
  generalize hG : pgat 32 (fun j => bif Nat.beq j s then (2147478481 - fl 32 r s) % 2147478481 else (fl 32 r j + fl 32 C1 (4 * s + j) * fl 32 r s) % 2147478481) p = G at *
  generalize hK : pgat 32 (fun j => bif Nat.beq j s then (2147463361 - fl 32 r (4 + s)) % 2147463361 else (fl 32 r (4 + j) + fl 32 C2 (4 * s + j) * fl 32 r (4 + s)) % 2147463361) p = K at *
  obtain ⟨t1, t2⟩ := fl_two (a := G) (b := K) (by omega)
  constructor
  · have : K <<< 128 = K * 2 ^ 128 := Nat.shiftLeft_eq _ _
    rw [this]
    have k3 : K + 1 ≤ 2 ^ 128 := by omega
    have k4 : (K + 1) * 2 ^ 128 ≤ 2 ^ 128 * 2 ^ 128 := Nat.mul_le_mul_right _ k3
    have k5 : (2 : Nat) ^ 128 * 2 ^ 128 = 2 ^ 256 := by rw [← Nat.pow_add]
    rw [Nat.add_mul, Nat.one_mul] at k4
    omega
  · intro j hj
    rw [t1 j (by omega), t2 j, g2 j hj, k2 j hj]
    obtain ⟨v1, v2⟩ := h j hj
    obtain ⟨w1, w2⟩ := h s hs
    unfold tn_r
    by_cases c : j = s
    · rw [if_pos c, if_pos c, beq_t c, w1, w2]
      exact ⟨rfl, rfl⟩
    · obtain ⟨c1, c2⟩ := hC s j hs hj c
      rw [if_neg c, if_neg c, beq_f c, v1, v2, w1, w2, c1, c2]
      exact ⟨rfl, rfl⟩
/-- what a vector is known by -/
noncomputable def khs (r : Nat) (p : Nat) : Nat := Nat.rec (motive := fun _ => Nat) 0 (fun j ih => Nat.add ih (Nat.mul (lm2.getD j 0) (fl 32 r j))) p
def hV (p : Nat) (V : Nat → Nat) : Nat := sm (fun j => lm2.getD j 0 * V j) p % 2147478481
theorem khs_eq {r : Nat} {V : Nat → Nat} : ∀ p, (∀ j, j < p → V j = fl 32 r j) → khs r p = sm (fun j => lm2.getD j 0 * V j) p := by
  intro p
  induction p with
  | zero => intro _; rfl
  | succ p ih =>
    intro h
    show khs r p + lm2.getD p 0 * fl 32 r p = sm (fun j => lm2.getD j 0 * V j) p + lm2.getD p 0 * V p
    rw [ih (fun j hj => h j (by omega)), h p (Nat.lt_succ_self p)]
abbrev St : Type := Nat × Nat × Nat × Nat × Nat × Nat
def er : St := (0, 0, 0, 0, 0, 0)
noncomputable def un {β : Type} (σ : St) (F : Nat → Nat → Nat → Nat → Nat → Nat → β) : β := Prod.rec (motive := fun _ => β) (fun n σ => Prod.rec (motive := fun _ => β) (fun t σ => Prod.rec (motive := fun _ => β) (fun s σ => Prod.rec (motive := fun _ => β) (fun A σ => Prod.rec (motive := fun _ => β) (fun V X => F n t s A V X) σ) σ) σ) σ) σ
/-- joined round a corner, if there is a tile -/
noncomputable def kj2 (p C1 C2 n t s g v V A r m : Nat) (k : Nat → St) : St := nst (kjr A (Nat.add s r) m t r) fun F => bif Nat.blt F 2000 then (bif Nat.blt t F && (Nat.blt F n && (Nat.beq (fl 12 A (Nat.add (Nat.mul 5 F) r)) 0 && (Nat.beq (Nat.add (kg A F) 1) g && Nat.beq (ktv p C1 C2 (fl 256 V F) r) v))) then nst (kjn A F r n) k else er) else k A
noncomputable def kmk (p : Nat) (cl : List Nat) (C1 C2 n t s A V X : Nat) : St := nst (ktv p C1 C2 (fl 256 V t) s) fun v => nst (Nat.add (Nat.mod (khs v p) 2147478481) (Nat.mul 17179869184 X)) fun X' => bif Nat.beq n 2000 then (2001, t, s, A, V, X') else nst (Nat.add (kg A t) 1) fun g => bif Nat.blt g 63 then nst (kjn (fp 12 A g (Nat.add (Nat.mul 5 n) 4)) t s n) fun A2 => nst (Nat.mod (Nat.add s 1) p) fun r1 => nst (Nat.mod (Nat.sub (Nat.add s p) 1) p) fun r2 => kj2 p C1 C2 n t s g v V A2 r1 (cl.getD s 0) fun A3 => kj2 p C1 C2 n t s g v V A3 r2 (cl.getD r2 0) fun A4 => nst (Nat.add n 1) fun n' => nst (Nat.add s 1) fun s' => nst (fp 256 V v n) fun V' => (n', t, s', A4, V', X') else er
noncomputable def st3 (p : Nat) (cl : List Nat) (C1 C2 n t s A V X : Nat) : St := bif Nat.blt 2000 n then (n, t, s, A, V, X) else bif Nat.beq n 0 then er else bif Nat.beq s p then (bif Nat.blt (Nat.add t 1) n then nst (Nat.add t 1) fun t' => (n, t', 0, A, V, X) else er) else bif Nat.beq (fl 12 A (Nat.add (Nat.mul 5 t) s)) 0 then kmk p cl C1 C2 n t s A V X else nst (Nat.add s 1) fun s' => (n, t, s', A, V, X)
/-- what a join did -/
def JN (p C1 C2 n t s g v V A r m A' : Nat) : Prop := (kjr A (s + r) m t r < 2000 ∧ t < kjr A (s + r) m t r ∧ kjr A (s + r) m t r < n ∧ fl 12 A (5 * kjr A (s + r) m t r + r) = 0 ∧ kg A (kjr A (s + r) m t r) + 1 = g ∧ ktv p C1 C2 (fl 256 V (kjr A (s + r) m t r)) r = v ∧ A' = kjn A (kjr A (s + r) m t r) r n) ∨ (¬ kjr A (s + r) m t r < 2000 ∧ A' = A)
section ST1
variable {p C1 C2 n t s g v V A X r m : Nat} {cl : List Nat}
theorem kj2_cases (k : Nat → St) : kj2 p C1 C2 n t s g v V A r m k = er ∨ ∃ A', JN p C1 C2 n t s g v V A r m A' ∧ kj2 p C1 C2 n t s g v V A r m k = k A' := by
  have e : kj2 p C1 C2 n t s g v V A r m k = bif Nat.blt (kjr A (s + r) m t r) 2000 then (bif Nat.blt t (kjr A (s + r) m t r) && (Nat.blt (kjr A (s + r) m t r) n && (Nat.beq (fl 12 A (5 * kjr A (s + r) m t r + r)) 0 && (Nat.beq (kg A (kjr A (s + r) m t r) + 1) g && Nat.beq (ktv p C1 C2 (fl 256 V (kjr A (s + r) m t r)) r) v))) then k (kjn A (kjr A (s + r) m t r) r n) else er) else k A := by
    unfold kj2
    rw [nst_eq, nst_eq]
    rfl
  rw [e]
  unfold JN
  generalize kjr A (s + r) m t r = F
  by_cases c : F < 2000
  · rw [blt_t c]
    cases c2 : Nat.blt t F && (Nat.blt F n && (Nat.beq (fl 12 A (5 * F + r)) 0 && (Nat.beq (kg A F + 1) g && Nat.beq (ktv p C1 C2 (fl 256 V F) r) v))) with
    | false => exact Or.inl rfl
    | true =>
      rw [Bool.and_eq_true, Bool.and_eq_true, Bool.and_eq_true, Bool.and_eq_true] at c2
      exact Or.inr ⟨kjn A F r n, Or.inl ⟨c, blt_iff.mp c2.1, blt_iff.mp c2.2.1, Nat.eq_of_beq_eq_true c2.2.2.1, Nat.eq_of_beq_eq_true c2.2.2.2.1, Nat.eq_of_beq_eq_true c2.2.2.2.2, rfl⟩, rfl⟩
  · rw [blt_f c]
    exact Or.inr ⟨A, Or.inr ⟨c, rfl⟩, rfl⟩
/-- what one step does -/
theorem st_cases : st3 p cl C1 C2 n t s A V X = er ∨ (2000 < n ∧ st3 p cl C1 C2 n t s A V X = (n, t, s, A, V, X)) ∨ (n ≤ 2000 ∧ s = p ∧ t + 1 < n ∧ st3 p cl C1 C2 n t s A V X = (n, t + 1, 0, A, V, X)) ∨ (n ≤ 2000 ∧ s ≠ p ∧ fl 12 A (5 * t + s) ≠ 0 ∧ st3 p cl C1 C2 n t s A V X = (n, t, s + 1, A, V, X)) ∨ (n = 2000 ∧ s ≠ p ∧ fl 12 A (5 * t + s) = 0 ∧ st3 p cl C1 C2 n t s A V X = (2001, t, s, A, V, khs (ktv p C1 C2 (fl 256 V t) s) p % 2147478481 + 17179869184 * X)) ∨ (n < 2000 ∧ s ≠ p ∧ fl 12 A (5 * t + s) = 0 ∧ kg A t + 1 < 63 ∧ ∃ A3 A4, JN p C1 C2 n t s (kg A t + 1) (ktv p C1 C2 (fl 256 V t) s) V (kjn (fp 12 A (kg A t + 1) (5 * n + 4)) t s n) ((s + 1) % p) (cl.getD s 0) A3 ∧ JN p C1 C2 n t s (kg A t + 1) (ktv p C1 C2 (fl 256 V t) s) V A3 ((s + p - 1) % p) (cl.getD ((s + p - 1) % p) 0) A4 ∧ st3 p cl C1 C2 n t s A V X = (n + 1, t, s + 1, A4, fp 256 V (ktv p C1 C2 (fl 256 V t) s) n, khs (ktv p C1 C2 (fl 256 V t) s) p % 2147478481 + 17179869184 * X)) := by
  by_cases c0 : 2000 < n
  · right; left
    refine ⟨c0, ?_⟩
    unfold st3
    rw [blt_t c0]; rfl
  · by_cases c1 : n = 0
    · left
      unfold st3
      rw [blt_f c0, beq_t c1]; rfl
    · by_cases c2 : s = p
      · by_cases c3 : t + 1 < n
        · right; right; left
          refine ⟨by omega, c2, c3, ?_⟩
          unfold st3
          rw [blt_f c0, beq_f c1, beq_t c2]
          show (bif Nat.blt (t + 1) n then nst (Nat.add t 1) fun t' => (n, t', 0, A, V, X) else er) = _
          rw [blt_t c3]
          rfl
        · left
          unfold st3
          rw [blt_f c0, beq_f c1, beq_t c2]
          show (bif Nat.blt (t + 1) n then nst (Nat.add t 1) fun t' => (n, t', 0, A, V, X) else er) = _
          rw [blt_f c3]; rfl
      · by_cases c4 : fl 12 A (5 * t + s) = 0
        · have e1 : st3 p cl C1 C2 n t s A V X = kmk p cl C1 C2 n t s A V X := by
            unfold st3
            rw [blt_f c0, beq_f c1, beq_f c2]
            show (bif Nat.beq (fl 12 A (5 * t + s)) 0 then kmk p cl C1 C2 n t s A V X else nst (Nat.add s 1) fun s' => (n, t, s', A, V, X)) = _
            rw [beq_t c4]; rfl
          rw [e1]
          have e2 : kmk p cl C1 C2 n t s A V X = bif Nat.beq n 2000 then (2001, t, s, A, V, khs (ktv p C1 C2 (fl 256 V t) s) p % 2147478481 + 17179869184 * X) else bif Nat.blt (kg A t + 1) 63 then kj2 p C1 C2 n t s (kg A t + 1) (ktv p C1 C2 (fl 256 V t) s) V (kjn (fp 12 A (kg A t + 1) (5 * n + 4)) t s n) ((s + 1) % p) (cl.getD s 0) (fun A3 => kj2 p C1 C2 n t s (kg A t + 1) (ktv p C1 C2 (fl 256 V t) s) V A3 ((s + p - 1) % p) (cl.getD ((s + p - 1) % p) 0) fun A4 => (n + 1, t, s + 1, A4, fp 256 V (ktv p C1 C2 (fl 256 V t) s) n, khs (ktv p C1 C2 (fl 256 V t) s) p % 2147478481 + 17179869184 * X)) else er := by
            unfold kmk
            simp only [nst_eq]
            rfl
          rw [e2]
          by_cases c5 : n = 2000
          · right; right; right; right; left
            refine ⟨c5, c2, c4, ?_⟩
            rw [beq_t c5]; rfl
          · rw [beq_f c5]
            by_cases c6 : kg A t + 1 < 63
            · rw [blt_t c6]
              show kj2 p C1 C2 n t s (kg A t + 1) (ktv p C1 C2 (fl 256 V t) s) V (kjn (fp 12 A (kg A t + 1) (5 * n + 4)) t s n) ((s + 1) % p) (cl.getD s 0) (fun A3 => kj2 p C1 C2 n t s (kg A t + 1) (ktv p C1 C2 (fl 256 V t) s) V A3 ((s + p - 1) % p) (cl.getD ((s + p - 1) % p) 0) fun A4 => (n + 1, t, s + 1, A4, fp 256 V (ktv p C1 C2 (fl 256 V t) s) n, khs (ktv p C1 C2 (fl 256 V t) s) p % 2147478481 + 17179869184 * X)) = er ∨ _
              have k1 := kj2_cases (p := p) (C1 := C1) (C2 := C2) (n := n) (t := t) (s := s) (g := kg A t + 1) (v := ktv p C1 C2 (fl 256 V t) s) (V := V) (A := kjn (fp 12 A (kg A t + 1) (5 * n + 4)) t s n) (r := (s + 1) % p) (m := cl.getD s 0) (fun A3 => kj2 p C1 C2 n t s (kg A t + 1) (ktv p C1 C2 (fl 256 V t) s) V A3 ((s + p - 1) % p) (cl.getD ((s + p - 1) % p) 0) fun A4 => (n + 1, t, s + 1, A4, fp 256 V (ktv p C1 C2 (fl 256 V t) s) n, khs (ktv p C1 C2 (fl 256 V t) s) p % 2147478481 + 17179869184 * X))
              rcases k1 with k1 | ⟨A3, j3, k1⟩
              · exact Or.inl k1
              · rcases kj2_cases (p := p) (C1 := C1) (C2 := C2) (n := n) (t := t) (s := s) (g := kg A t + 1) (v := ktv p C1 C2 (fl 256 V t) s) (V := V) (A := A3) (r := (s + p - 1) % p) (m := cl.getD ((s + p - 1) % p) 0) (fun A4 => (n + 1, t, s + 1, A4, fp 256 V (ktv p C1 C2 (fl 256 V t) s) n, khs (ktv p C1 C2 (fl 256 V t) s) p % 2147478481 + 17179869184 * X)) with k2 | ⟨A4, j4, k2⟩
                · exact Or.inl (k1.trans k2)
                · right; right; right; right; right
                  exact ⟨by omega, c2, c4, c6, A3, A4, j3, j4, k1.trans k2⟩
            · left
              rw [blt_f c6]; rfl
        · right; right; right; left
          refine ⟨by omega, c2, c4, ?_⟩
          unfold st3
          rw [blt_f c0, beq_f c1, beq_f c2]
          show (bif Nat.beq (fl 12 A (5 * t + s)) 0 then kmk p cl C1 C2 n t s A V X else nst (Nat.add s 1) fun s' => (n, t, s', A, V, X)) = _
          rw [beq_f c4]
          rfl
/-! many steps -/
noncomputable def stp (p : Nat) (cl : List Nat) (C1 C2 : Nat) (σ : St) : St := un σ (st3 p cl C1 C2)
noncomputable def itr (p : Nat) (cl : List Nat) (C1 C2 : Nat) : Nat → St → St
  | 0, σ => σ
  | k + 1, σ => itr p cl C1 C2 k (stp p cl C1 C2 σ)
noncomputable def dbl (p : Nat) (cl : List Nat) (C1 C2 k : Nat) : St → St := Nat.rec (motive := fun _ => St → St) (fun σ => un σ (st3 p cl C1 C2)) (fun _ ih σ => un (ih σ) (fun n t s A V X => ih (n, t, s, A, V, X))) k
theorem un_eq {β : Type} (σ : St) (F : Nat → Nat → Nat → Nat → Nat → Nat → β) : un σ F = F σ.1 σ.2.1 σ.2.2.1 σ.2.2.2.1 σ.2.2.2.2.1 σ.2.2.2.2.2 := rfl
theorem itr_add : ∀ (a b : Nat) (σ : St), itr p cl C1 C2 b (itr p cl C1 C2 a σ) = itr p cl C1 C2 (a + b) σ := by
  intro a
  induction a with
  | zero => intro b σ; rw [Nat.zero_add]; rfl
  | succ a ih =>
    intro b σ
    rw [show a + 1 + b = (a + b) + 1 by omega]
    show itr p cl C1 C2 b (itr p cl C1 C2 a (stp p cl C1 C2 σ)) = itr p cl C1 C2 (a + b) (stp p cl C1 C2 σ)
    exact ih b _
theorem dbl_eq : ∀ (k : Nat) (σ : St), dbl p cl C1 C2 k σ = itr p cl C1 C2 (2 ^ k) σ := by
  intro k
  induction k with
  | zero => intro σ; rfl
  | succ k ih =>
    intro σ
    have e : dbl p cl C1 C2 (k + 1) σ = dbl p cl C1 C2 k (dbl p cl C1 C2 k σ) := rfl
    rw [e, ih, ih, itr_add, Nat.pow_succ, Nat.mul_two]
theorem itr_er : ∀ k, itr p cl C1 C2 k er = er := by
  intro k
  induction k with
  | zero => rfl
  | succ k ih =>
    have e : stp p cl C1 C2 er = er := rfl
    show itr p cl C1 C2 k (stp p cl C1 C2 er) = er
    rw [e]; exact ih
theorem itr_dn (hn : 2000 < n) : ∀ k, itr p cl C1 C2 k (n, t, s, A, V, X) = (n, t, s, A, V, X) := by
  intro k
  induction k with
  | zero => rfl
  | succ k ih =>
    have e : stp p cl C1 C2 (n, t, s, A, V, X) = (n, t, s, A, V, X) := by
      show st3 p cl C1 C2 n t s A V X = _
      unfold st3
      rw [blt_t hn]; rfl
    show itr p cl C1 C2 k (stp p cl C1 C2 (n, t, s, A, V, X)) = _
    rw [e]; exact ih
end ST1
