/-! ===== three sides, faster (3): one side ===== -/
/-- a tile joined to tile n, in one table -/
noncomputable def pj (B F n : Nat) : Nat := Nat.lor B (Nat.add (Nat.shiftLeft (Nat.add n 1) (Nat.mul 12 F)) (Nat.shiftLeft (Nat.add F 1) (Nat.mul 12 n)))
theorem pj_fl {B F n : Nat} (hF : F < n) (hn : n < 2000) (z1 : fl 12 B F = 0) (z2 : fl 12 B n = 0) (i : Nat) : fl 12 (pj B F n) i = if i = n then F + 1 else if i = F then n + 1 else fl 12 B i := by
  have b1 : n + 1 < 2 ^ 12 := by omega
  have b2 : F + 1 < 2 ^ 12 := by omega
  have e : pj B F n = fp 12 (fp 12 B (n + 1) F) (F + 1) n := by
    unfold pj fp
    show B ||| ((n + 1) <<< (12 * F) + (F + 1) <<< (12 * n)) = (B ||| (n + 1) <<< (12 * F)) ||| (F + 1) <<< (12 * n)
    have l : (n + 1) <<< (12 * F) < 2 ^ (12 * n) := by
      rw [Nat.shiftLeft_eq, Nat.mul_comm]
      have q : 2 ^ (12 * F) * (n + 1) < 2 ^ (12 * F) * 2 ^ 12 := Nat.mul_lt_mul_of_pos_left b1 (Nat.two_pow_pos _)
      rw [← Nat.pow_add] at q
      exact Nat.lt_of_lt_of_le q (Nat.pow_le_pow_right (by decide) (by omega))
    have o : (n + 1) <<< (12 * F) + (F + 1) <<< (12 * n) = (n + 1) <<< (12 * F) ||| (F + 1) <<< (12 * n) := by
      generalize (n + 1) <<< (12 * F) = x at l
      have q := Nat.shiftLeft_add_eq_or_of_lt l (F + 1)
      rw [Nat.add_comm, q, Nat.or_comm]
    rw [o, Nat.or_assoc]
  have q1 := fl_put0 (i := F) b1 z1
  have z3 : fl 12 (fp 12 B (n + 1) F) n = 0 := by
    rw [q1, if_neg (by omega)]; exact z2
  rw [e, fl_put0 (i := n) b2 z3 i, q1]
/-- joined round a corner, if there is a tile -/
noncomputable def kj3 {β : Type} (er0 : β) (n t Ba B m : Nat) (k : Nat → β) : β := kj er0 (k B) m t B Ba (fun F => Bool.rec (motive := fun _ => β) er0 (Bool.rec (motive := fun _ => β) er0 (Nat.rec (motive := fun _ => β) (nst (pj B F n) k) (fun _ _ => er0) (Nat.mod (Nat.shiftRight B (Nat.mul 12 F)) 4096)) (Nat.ble (Nat.succ F) n)) (Nat.ble (Nat.succ t) F))
/-- the turned vector: three fields of 32 bits -/
noncomputable def tv3 (os o1 o2 cA cC r : Nat) : Nat := nst (Nat.mod (Nat.shiftRight r os) 4294967296) fun x => Nat.add (Nat.shiftLeft (Nat.mod (Nat.sub 2147478481 x) 2147478481) os) (Nat.add (Nat.shiftLeft (Nat.mod (Nat.add (Nat.mod (Nat.shiftRight r o1) 4294967296) (Nat.mul cA x)) 2147478481) o1) (Nat.shiftLeft (Nat.mod (Nat.add (Nat.mod (Nat.shiftRight r o2) 4294967296) (Nat.mul cC x)) 2147478481) o2))
noncomputable def hs3 (v : Nat) : Nat := Nat.mod (Nat.add (Nat.mul 1500450271 (Nat.mod v 4294967296)) (Nat.add (Nat.mul 86028157 (Nat.mod (Nat.shiftRight v 32) 4294967296)) (Nat.mul 472882027 (Nat.mod (Nat.shiftRight v 64) 4294967296)))) 2147478481
/-- one side of tile t: tables Ba, Bb, Bc of this side, the next and the one before -/
noncomputable def sd {β : Type} (er0 : β) (dn0 : Nat → β) (os o1 o2 cA cC mA mC n t r Ba Bb Bc V X : Nat) (k : Nat → Nat → Nat → Nat → Nat → Nat → β) : β := Nat.rec (motive := fun _ => β) (nst (tv3 os o1 o2 cA cC r) fun v => nst (Nat.add (hs3 v) (Nat.mul 17179869184 X)) fun X' => Nat.rec (motive := fun _ => β) (dn0 X') (fun _ _ => nst (pj Ba t n) fun Ba2 => kj3 er0 n t Ba2 Bb mA fun Bb3 => kj3 er0 n t Ba2 Bc mC fun Bc3 => nst (Nat.lor V (Nat.shiftLeft v (Nat.mul 96 n))) fun V' => nst (Nat.add n 1) fun n1 => k n1 Ba2 Bb3 Bc3 V' X') (Nat.sub 2000 n)) (fun _ _ => k n Ba Bb Bc V X) (Nat.mod (Nat.shiftRight Ba (Nat.mul 12 t)) 4096)
section SD1
variable {β : Type} {er0 : β} {dn0 : Nat → β} {os o1 o2 cA cC mA mC n t r Ba Bb Bc V X : Nat} {k : Nat → Nat → Nat → Nat → Nat → Nat → β}
theorem sd_old (h : fl 12 Ba t ≠ 0) : sd er0 dn0 os o1 o2 cA cC mA mC n t r Ba Bb Bc V X k = k n Ba Bb Bc V X := by
  unfold sd
  rw [fd_eq, n_rec, if_neg h]
theorem sd_full (h : fl 12 Ba t = 0) (hn : ¬ n < 2000) : sd er0 dn0 os o1 o2 cA cC mA mC n t r Ba Bb Bc V X k = dn0 (hs3 (tv3 os o1 o2 cA cC r) + 17179869184 * X) := by
  unfold sd
  rw [fd_eq, n_rec, if_pos h, nst_eq, nst_eq, n_rec, if_pos (show Nat.sub 2000 n = 0 from (by omega : 2000 - n = 0))]
  rfl
theorem sd_new (h : fl 12 Ba t = 0) (hn : n < 2000) : sd er0 dn0 os o1 o2 cA cC mA mC n t r Ba Bb Bc V X k = kj3 er0 n t (pj Ba t n) Bb mA fun Bb3 => kj3 er0 n t (pj Ba t n) Bc mC fun Bc3 => k (n + 1) (pj Ba t n) Bb3 Bc3 (fp 96 V (tv3 os o1 o2 cA cC r) n) (hs3 (tv3 os o1 o2 cA cC r) + 17179869184 * X) := by
  unfold sd
  rw [fd_eq, n_rec, if_pos h, nst_eq, nst_eq, n_rec, if_neg (show ¬ Nat.sub 2000 n = 0 from (by omega : ¬ 2000 - n = 0)), nst_eq]
  rfl
/-- what a join does -/
theorem kj3_sem {N a b s r m : Nat} {T : Nat → Nat} {ac : Nat → Nat → Nat} {G : Nat → Nat} (k : Nat → β) (hab : s = a ∧ r = b ∨ s = b ∧ r = a) (h : WT N a b T ac G) (ht : t < N) : kj3 er0 n t (T s) (T r) m k = er0 ∨ (¬ jr ac G (s + r) m t r < 2000 ∧ kj3 er0 n t (T s) (T r) m k = k (T r)) ∨ (jr ac G (s + r) m t r < N ∧ t < jr ac G (s + r) m t r ∧ jr ac G (s + r) m t r < n ∧ fl 12 (T r) (jr ac G (s + r) m t r) = 0 ∧ m ≠ 0 ∧ (∃ l0 l1 z, (l0 = s ∧ l1 = r ∨ l0 = r ∧ l1 = s) ∧ up ac l0 l1 z (m - 1) t ∧ up ac l1 l0 z (m - 1) (jr ac G (s + r) m t r) ∧ al l0 l1 (m - 1) = s ∧ al l1 l0 (m - 1) = r) ∧ kj3 er0 n t (T s) (T r) m k = k (pj (T r) (jr ac G (s + r) m t r) n)) := by
  unfold kj3
  rcases kj_sem er0 (k (T r)) (fun F => Bool.rec (motive := fun _ => β) er0 (Bool.rec (motive := fun _ => β) er0 (Nat.rec (motive := fun _ => β) (nst (pj (T r) F n) k) (fun _ _ => er0) (Nat.mod (Nat.shiftRight (T r) (Nat.mul 12 F)) 4096)) (Nat.ble (Nat.succ F) n)) (Nat.ble (Nat.succ t) F)) (m := m) hab h ht with e | ⟨e, c⟩ | ⟨e, c, hm, ch⟩
  · exact Or.inl e
  · exact Or.inr (Or.inl ⟨c, e⟩)
  · rw [e]
    generalize jr ac G (s + r) m t r = F at c ch
    show Bool.rec (motive := fun _ => β) er0 (Bool.rec (motive := fun _ => β) er0 (Nat.rec (motive := fun _ => β) (nst (pj (T r) F n) k) (fun _ _ => er0) (Nat.mod (Nat.shiftRight (T r) (Nat.mul 12 F)) 4096)) (Nat.ble (Nat.succ F) n)) (Nat.ble (Nat.succ t) F) = er0 ∨ _
    rw [b_rec, b_rec, fd_eq, n_rec]
    by_cases c1 : t < F
    · rw [if_pos c1]
      by_cases c2 : F < n
      · rw [if_pos c2]
        by_cases c3 : fl 12 (T r) F = 0
        · rw [if_pos c3]
          exact Or.inr (Or.inr ⟨c, c1, c2, c3, hm, ch, nst_eq _ _⟩)
        · left
          rw [if_neg c3]
      · left
        rw [if_neg c2]
    · left
      rw [if_neg c1]
end SD1
/-! vectors and their fields -/
theorem sh_mul (x o : Nat) : Nat.shiftLeft x o = x * 2 ^ o := Nat.shiftLeft_eq x o
theorem fl_div (w T i : Nat) : fl w T i = T / 2 ^ (w * i) % 2 ^ w := by
  show (T >>> (w * i)) % 2 ^ w = _
  rw [Nat.shiftRight_eq_div_pow]
theorem three_fl {A B C : Nat} (hA : A < 4294967296) (hB : B < 4294967296) (hC : C < 4294967296) : fl 32 (A + (B * 4294967296 + C * 18446744073709551616)) 0 = A ∧ fl 32 (A + (B * 4294967296 + C * 18446744073709551616)) 1 = B ∧ fl 32 (A + (B * 4294967296 + C * 18446744073709551616)) 2 = C ∧ A + (B * 4294967296 + C * 18446744073709551616) < 2 ^ 96 := by
  have e0 : (2 : Nat) ^ (32 * 0) = 1 := by decide
  have e1 : (2 : Nat) ^ (32 * 1) = 4294967296 := by decide
  have e2 : (2 : Nat) ^ (32 * 2) = 18446744073709551616 := by decide
  have e4 : (2 : Nat) ^ 96 = 79228162514264337593543950336 := by decide
  rw [fl_div, fl_div, fl_div, e0, e1, e2, e4]
  refine ⟨?_, ?_, ?_, ?_⟩ <;> omega
/-- which fields: 32 s -/
def of3 (s : Nat) : Nat := 32 * s
theorem tv3_ok {cs : Nat → Nat} {cA cC r s : Nat} (hs : s < 3) (h1 : cA = an_c1 (cs s)) (h2 : cC = an_c1 (cs ((s + 2) % 3))) {V : Nat → Nat} (h : ∀ j, j < 3 → V j = fl 32 r j) : tv3 (32 * s) (32 * ((s + 1) % 3)) (32 * ((s + 2) % 3)) cA cC r < 2 ^ 96 ∧ ∀ j, j < 3 → tn_r an_P1 (fun j => an_c1 (an_m 3 cs s j)) V s j = fl 32 (tv3 (32 * s) (32 * ((s + 1) % 3)) (32 * ((s + 2) % 3)) cA cC r) j := by
  have fe : ∀ j, Nat.mod (Nat.shiftRight r (32 * j)) 4294967296 = fl 32 r j := fun j => rfl
  have e : ∀ s' r1 r2, tv3 (32 * s') (32 * r1) (32 * r2) cA cC r = (2147478481 - fl 32 r s') % 2147478481 * 2 ^ (32 * s') + ((fl 32 r r1 + cA * fl 32 r s') % 2147478481 * 2 ^ (32 * r1) + (fl 32 r r2 + cC * fl 32 r s') % 2147478481 * 2 ^ (32 * r2)) := fun s' r1 r2 => by
    unfold tv3
    rw [nst_eq, fe, fe, fe, sh_mul, sh_mul, sh_mul]
    rfl
  have v0 := h 0 (by decide)
  have v1 := h 1 (by decide)
  have v2 := h 2 (by decide)
  have m31 : ∀ x, x % 2147478481 < 4294967296 := fun x => Nat.lt_trans (Nat.mod_lt _ (by decide)) (by decide)
  have p0 : (2 : Nat) ^ (32 * 0) = 1 := by decide
  have p1 : (2 : Nat) ^ (32 * 1) = 4294967296 := by decide
  have p2 : (2 : Nat) ^ (32 * 2) = 18446744073709551616 := by decide
  have cs3 : s = 0 ∨ s = 1 ∨ s = 2 := by omega
  rcases cs3 with c | c | c <;> subst c
  · obtain ⟨t0, t1, t2, t3⟩ := three_fl (m31 (2147478481 - fl 32 r 0)) (m31 (fl 32 r 1 + cA * fl 32 r 0)) (m31 (fl 32 r 2 + cC * fl 32 r 0))
    have e' : tv3 (32 * 0) (32 * ((0 + 1) % 3)) (32 * ((0 + 2) % 3)) cA cC r = (2147478481 - fl 32 r 0) % 2147478481 + ((fl 32 r 1 + cA * fl 32 r 0) % 2147478481 * 4294967296 + (fl 32 r 2 + cC * fl 32 r 0) % 2147478481 * 18446744073709551616) := by
      have q := e 0 1 2
      rw [p0, p1, p2] at q
      refine Eq.trans q ?_
      omega
    rw [e']
    refine ⟨t3, fun j hj => ?_⟩
    have cj : j = 0 ∨ j = 1 ∨ j = 2 := by omega
    rcases cj with c | c | c <;> subst c
    · rw [t0, ← v0]; rfl
    · rw [t1, h1, ← v0, ← v1]; rfl
    · rw [t2, h2, ← v0, ← v2]; rfl
  · obtain ⟨t0, t1, t2, t3⟩ := three_fl (m31 (fl 32 r 0 + cC * fl 32 r 1)) (m31 (2147478481 - fl 32 r 1)) (m31 (fl 32 r 2 + cA * fl 32 r 1))
    have e' : tv3 (32 * 1) (32 * ((1 + 1) % 3)) (32 * ((1 + 2) % 3)) cA cC r = (fl 32 r 0 + cC * fl 32 r 1) % 2147478481 + ((2147478481 - fl 32 r 1) % 2147478481 * 4294967296 + (fl 32 r 2 + cA * fl 32 r 1) % 2147478481 * 18446744073709551616) := by
      have q := e 1 2 0
      rw [p0, p1, p2] at q
      refine Eq.trans q ?_
      omega
    rw [e']
    refine ⟨t3, fun j hj => ?_⟩
    have cj : j = 0 ∨ j = 1 ∨ j = 2 := by omega
    rcases cj with c | c | c <;> subst c
    · rw [t0, h2, ← v0, ← v1]; rfl
    · rw [t1, ← v1]; rfl
    · rw [t2, h1, ← v1, ← v2]; rfl
  · obtain ⟨t0, t1, t2, t3⟩ := three_fl (m31 (fl 32 r 0 + cA * fl 32 r 2)) (m31 (fl 32 r 1 + cC * fl 32 r 2)) (m31 (2147478481 - fl 32 r 2))
    have e' : tv3 (32 * 2) (32 * ((2 + 1) % 3)) (32 * ((2 + 2) % 3)) cA cC r = (fl 32 r 0 + cA * fl 32 r 2) % 2147478481 + ((fl 32 r 1 + cC * fl 32 r 2) % 2147478481 * 4294967296 + (2147478481 - fl 32 r 2) % 2147478481 * 18446744073709551616) := by
      have q := e 2 0 1
      rw [p0, p1, p2] at q
      refine Eq.trans q ?_
      omega
    rw [e']
    refine ⟨t3, fun j hj => ?_⟩
    have cj : j = 0 ∨ j = 1 ∨ j = 2 := by omega
    rcases cj with c | c | c <;> subst c
    · rw [t0, h1, ← v0, ← v2]; rfl
    · rw [t1, h2, ← v1, ← v2]; rfl
    · rw [t2, ← v2]; rfl
theorem hs3_ok {v : Nat} {V : Nat → Nat} (h : ∀ j, j < 3 → V j = fl 32 v j) : hs3 v = hV 3 V := by
  have e0 : Nat.mod v 4294967296 = fl 32 v 0 := rfl
  have e1 : Nat.mod (Nat.shiftRight v 32) 4294967296 = fl 32 v 1 := rfl
  have e2 : Nat.mod (Nat.shiftRight v 64) 4294967296 = fl 32 v 2 := rfl
  unfold hs3 hV
  rw [e0, e1, e2, ← h 0 (by decide), ← h 1 (by decide), ← h 2 (by decide)]
  show (1500450271 * V 0 + (86028157 * V 1 + 472882027 * V 2)) % 2147478481 = (0 + 1500450271 * V 0 + 86028157 * V 1 + 472882027 * V 2) % 2147478481
  rw [Nat.zero_add, Nat.add_assoc]
theorem hs3_lt (v : Nat) : hs3 v < 4294967296 := Nat.lt_trans (Nat.mod_lt _ (by decide)) (by decide)
