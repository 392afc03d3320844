/-! ===== closed boards: handles, the reference's ===== -/
theorem cb_bit0 : ∀ a : Fin 64, ∀ o : Fin 6, ((nI a.1 >>> (nI o.1 &&& 31)) &&& 1 = 0) ↔ a.1.testBit o.1 = false := by decide +kernel
theorem cb_bitq : ∀ a : Fin 64, ∀ x y : Fin 6, ((nI a.1 >>> (nI x.1 &&& 31)) &&& 1 = (nI a.1 >>> (nI y.1 &&& 31)) &&& 1) ↔ a.1.testBit x.1 = a.1.testBit y.1 := by decide +kernel
section CHb
variable {d n p : Nat} {J : Nat → Nat → Int64} {cs : Nat → Nat} {a : List Nat} {I : Nat → Nat → Int32}
theorem rs_cp_34_30 (d : Nat) : ∃ I', rk_call (d + 1) 2 [.ref 0, .ref 34, .ref 30] (rk_R, I, J) none (rk_R, I', J) ∧ lk_cp 34 30 8 I I' := by
  obtain ⟨I', g1, g2, -, g4⟩ := rs_cp (rk_call d) J 34 30 8 (by decide) (by decide) (fun I x h => rp_copies_34_30_2_0 I J x (by decide) h) (fun I x τ h1 h2 h3 => rp_copies_34_30_2_1 I J x (by decide) h1 h2 h2 h3) 8 0 I (Nat.zero_add _)
  exact ⟨I', ij_cr_of (Nat.le_of_ble_eq_true rfl) (rp_copies_34_30_0_0 I J g1), fun k hk => g2 k (Nat.zero_le k) hk, g4⟩
/-- bits so far: those of sort 1 that lie across from a tile ahead of place (k, s) -/
def cb_bt (n p : Nat) (a : List Nat) (k s S : Nat) : Prop := S < 2 ^ n ∧ ∀ f, cb_two n p a f → ∀ y, y < n → (S.testBit y = true ↔ y ≠ 0 ∧ cb_H n p a (cb_od n p a 0) k s y ∧ f y = 1)
theorem cb_H_s {k s y : Nat} (hk : k < n) (hs : s < p) {o : List Nat} : cb_H n p a o k (s + 1) y ↔ cb_H n p a o k s y ∨ cb_b n a s (o.getD k 0) = y := by
  constructor
  · rintro ⟨j, r, h1, h2, h3, h4⟩
    by_cases e : j = k ∧ r = s
    · rw [e.1, e.2] at h4; exact Or.inr h4
    · exact Or.inl ⟨j, r, h1, h2, by omega, h4⟩
  · rintro (⟨j, r, h1, h2, h3, h4⟩ | h)
    · exact ⟨j, r, h1, h2, by omega, h4⟩
    · exact ⟨k, s, hs, hk, Or.inr ⟨rfl, Nat.lt_succ_self s⟩, h⟩
theorem cb_H_k {k y : Nat} {o : List Nat} : cb_H n p a o k p y ↔ cb_H n p a o (k + 1) 0 y := by
  constructor
  · rintro ⟨j, r, h1, h2, h3, h4⟩
    exact ⟨j, r, h1, h2, Or.inl (by omega), h4⟩
  · rintro ⟨j, r, h1, h2, h3, h4⟩
    exact ⟨j, r, h1, h2, by omega, h4⟩
theorem rs_hd106 {x1 x2 : Int32} {k : Nat} (hn : n < 7) (hp : p ≤ 8) (hal : a.length = p) (hok : cb_ok n p a) (hcn : cb_cn n p a) (h0 : 0 < n) (hc : cb_cx n p cs I) (hat : cb_at a I) (ht : cb_tn n (cb_od n p a 0) I) (hk : k < n) : ∀ (r s S : Nat), s + r = p → cb_bt n p a k s S → ∃ S', cb_bt n p a (k + 1) 0 S' ∧ ∀ v τ, rk_go (rk_call (d + 2)) 64 (85, [some (.ref 0), some (.int x1), some (.int x2), some (.int (nI S')), some (.int (nI (k + 1))), none, none, none], [], (rk_R, I, J)) v τ → rk_go (rk_call (d + 2)) 64 (106, [some (.ref 0), some (.int x1), some (.int x2), some (.int (nI S)), some (.int (nI k)), some (.int (nI ((cb_od n p a 0).getD k 0))), some (.int (nI s)), none], [], (rk_R, I, J)) v τ := by
  have p64 := cb_pow64 hn
  obtain ⟨o1, o2, o3⟩ := cb_o_all hn hok hcn h0
  have hl := cb_con_full hn hok hcn h0
  have ok := (o1 k hk).1
  intro r
  induction r with
  | zero =>
    intro s S hs hb
    have : s = p := by omega
    subst this
    refine ⟨S, ⟨hb.1, fun f hf y hy => (hb.2 f hf y hy).trans (and_congr_right (fun _ => and_congr_left (fun _ => cb_H_k)))⟩, fun v τ hg => ?_⟩
    rw [← nI_1] at hg
    exact rp_handles_106_0 I J _ _ _ _ _ _ (by rw [hc.2.1]; exact nI_le (Nat.le_refl s) (by omega)) hg
  | succ r ih =>
    intro s S hs hb
    have hsp : s < p := by omega
    have hy := cb_b_lt hn hok hsp ok
    have hi := (o2 _ hy).1
    have hmy : cb_b n a s ((cb_od n p a 0).getD k 0) ∈ cb_od n p a 0 := (cb_od_mem hn hok h0).mpr (hcn _ hy)
    have cly : (nI (cb_b n a s ((cb_od n p a 0).getD k 0))).toNatClampNeg = cb_b n a s ((cb_od n p a 0).getD k 0) := nI_clamp (by omega)
    have g106 : ∀ v τ, rk_go (rk_call (d + 2)) 64 (123, [some (.ref 0), some (.int x1), some (.int x2), some (.int (nI S)), some (.int (nI k)), some (.int (nI ((cb_od n p a 0).getD k 0))), some (.int (nI s)), none], [.int (nI (cb_b n a s ((cb_od n p a 0).getD k 0)))], (rk_R, I, J)) v τ → rk_go (rk_call (d + 2)) 64 (106, [some (.ref 0), some (.int x1), some (.int x2), some (.int (nI S)), some (.int (nI k)), some (.int (nI ((cb_od n p a 0).getD k 0))), some (.int (nI s)), none], [], (rk_R, I, J)) v τ := fun v τ hg => rp_handles_106_1 I J _ _ _ _ _ _ (by rw [hc.2.1]; exact nI_ge (by omega) (by omega)) _ (rs_go (d := d + 1) hn hc.1 (by omega) (hat s (by omega)) (hok s hsp) ok) hg
    have i32 : I 32 (cb_b n a s ((cb_od n p a 0).getD k 0)) = nI ((cb_od n p a 0).idxOf (cb_b n a s ((cb_od n p a 0).getD k 0))) := cb_tn_at ht hy hmy
    -- if it was met ahead already, nothing changes
    have stay : (cb_b n a s ((cb_od n p a 0).getD k 0) = 0 ∨ cb_H n p a (cb_od n p a 0) k s (cb_b n a s ((cb_od n p a 0).getD k 0))) → cb_bt n p a k (s + 1) S := fun q => ⟨hb.1, fun f hf y hy' => by
      rw [hb.2 f hf y hy', cb_H_s hk hsp]
      constructor
      · rintro ⟨q1, q2, q3⟩; exact ⟨q1, Or.inl q2, q3⟩
      · rintro ⟨q1, q2, q3⟩
        refine ⟨q1, ?_, q3⟩
        rcases q2 with q2 | q2
        · exact q2
        · rcases q with q | q
          · rw [q2] at q; exact absurd q q1
          · rw [q2] at q; exact q⟩
    by_cases e1 : (cb_od n p a 0).idxOf (cb_b n a s ((cb_od n p a 0).getD k 0)) ≤ k
    · have hq : cb_b n a s ((cb_od n p a 0).getD k 0) = 0 ∨ cb_H n p a (cb_od n p a 0) k s (cb_b n a s ((cb_od n p a 0).getD k 0)) := by
        by_cases e0 : (cb_od n p a 0).idxOf (cb_b n a s ((cb_od n p a 0).getD k 0)) = 0
        · left
          have := (o2 _ hy).2
          rw [e0, o3] at this
          exact this.symm
        · right
          obtain ⟨j, r', q1, q2, q3⟩ := cb_od_pa (n := n) (p := p) (a := a) 0 ((cb_od n p a 0).idxOf (cb_b n a s ((cb_od n p a 0).getD k 0))) (by omega) (by rw [hl]; exact hi)
          rw [(o2 _ hy).2] at q3
          exact ⟨j, r', q2, by omega, Or.inl (by omega), q3⟩
      obtain ⟨S', z1, z2⟩ := ih (s + 1) S (by omega) (stay hq)
      refine ⟨S', z1, fun v τ hg => g106 v τ ?_⟩
      have z := z2 v τ hg
      rw [← nI_1] at z
      exact rp_handles_123_0 I J _ _ _ _ _ _ _ (vp_in_nI (by omega) (by decide)) (by rw [cly, i32]; exact nI_le e1 (by omega)) z
    · have fb := rs_isFirst (d := d) (J := J) (s := s) hn hp hal hok hcn h0 hc hat ht hk hsp
      have g123 : ∀ v τ, rk_go (rk_call (d + 2)) 64 (145, [some (.ref 0), some (.int x1), some (.int x2), some (.int (nI S)), some (.int (nI k)), some (.int (nI ((cb_od n p a 0).getD k 0))), some (.int (nI s)), some (.int (nI (cb_b n a s ((cb_od n p a 0).getD k 0))))], [.int (if cb_B (cb_H n p a (cb_od n p a 0) k s (cb_b n a s ((cb_od n p a 0).getD k 0))) then 0 else 1)], (rk_R, I, J)) v τ → rk_go (rk_call (d + 2)) 64 (106, [some (.ref 0), some (.int x1), some (.int x2), some (.int (nI S)), some (.int (nI k)), some (.int (nI ((cb_od n p a 0).getD k 0))), some (.int (nI s)), none], [], (rk_R, I, J)) v τ := fun v τ hg => g106 v τ (rp_handles_123_1 I J _ _ _ _ _ _ _ (vp_in_nI (by omega) (by decide)) (by rw [cly, i32]; exact nI_ge (by omega) (by omega)) _ fb hg)
      by_cases hh : cb_H n p a (cb_od n p a 0) k s (cb_b n a s ((cb_od n p a 0).getD k 0))
      · obtain ⟨S', z1, z2⟩ := ih (s + 1) S (by omega) (stay (Or.inr hh))
        refine ⟨S', z1, fun v τ hg => g123 v τ ?_⟩
        have z := z2 v τ hg
        rw [← nI_1] at z
        rw [cb_B_t hh, if_pos rfl]
        exact rp_handles_145_0 I J _ _ _ _ _ _ _ _ rfl z
      · have y0 : cb_b n a s ((cb_od n p a 0).getD k 0) ≠ 0 := fun q => by
          have q1 := (o1 0 h0).2
          rw [o3] at q1
          rw [q, q1] at e1
          omega
        -- the tile itself has its bit
        have own : ∀ f, cb_two n p a f → (S.testBit ((cb_od n p a 0).getD k 0) = true ↔ f ((cb_od n p a 0).getD k 0) = 1) := fun f hf => by
          rw [hb.2 f hf _ ok]
          constructor
          · exact fun q => q.2.2
          · intro q
            have x0 : (cb_od n p a 0).getD k 0 ≠ 0 := fun z => by rw [z, hf.1] at q; exact absurd q (by decide)
            have k0 : k ≠ 0 := fun z => x0 (by rw [z]; exact o3)
            refine ⟨x0, ?_, q⟩
            obtain ⟨j, r', q1, q2, q3⟩ := cb_od_pa (n := n) (p := p) (a := a) 0 k (by omega) (by omega)
            exact ⟨j, r', q2, by omega, Or.inl q1, q3⟩
        by_cases bx : S.testBit ((cb_od n p a 0).getD k 0) = true
        · have hb' : cb_bt n p a k (s + 1) S := ⟨hb.1, fun f hf y hy' => by
            rw [hb.2 f hf y hy', cb_H_s hk hsp]
            constructor
            · rintro ⟨q1, q2, q3⟩; exact ⟨q1, Or.inl q2, q3⟩
            · rintro ⟨q1, q2, q3⟩
              refine ⟨q1, q2.resolve_right (fun q => ?_), q3⟩
              have h1 := (own f hf).mp bx
              have h2 := hf.2.2 s _ hsp ok
              rw [q] at h2
              omega⟩
          obtain ⟨S', z1, z2⟩ := ih (s + 1) S (by omega) hb'
          refine ⟨S', z1, fun v τ hg => g123 v τ ?_⟩
          have z := z2 v τ hg
          rw [← nI_1] at z
          rw [cb_B_f hh]
          refine rp_handles_145_1 I J _ _ _ _ _ _ _ _ (by decide) (fun q => ?_) (by rw [Int32.or_zero]; exact z)
          exact absurd (bx.symm.trans ((cb_bit0 ⟨S, by have := hb.1; omega⟩ ⟨(cb_od n p a 0).getD k 0, by omega⟩).mp q)) (by decide)
        · have bxf : S.testBit ((cb_od n p a 0).getD k 0) = false := by simpa using bx
          have hb' : cb_bt n p a k (s + 1) (S ||| 2 ^ cb_b n a s ((cb_od n p a 0).getD k 0)) := by
            refine ⟨Nat.or_lt_two_pow hb.1 (Nat.pow_lt_pow_right (by decide) hy), fun f hf y hy' => ?_⟩
            rw [Nat.testBit_or, Bool.or_eq_true, Nat.testBit_two_pow, decide_eq_true_iff, hb.2 f hf y hy', cb_H_s hk hsp]
            have hfy : f (cb_b n a s ((cb_od n p a 0).getD k 0)) = 1 := by
              have h1 := hf.2.2 s _ hsp ok
              have h2 := hf.2.1 _ ok
              have h3 := hf.2.1 _ hy
              have h4 : f ((cb_od n p a 0).getD k 0) ≠ 1 := fun q => bx ((own f hf).mpr q)
              omega
            constructor
            · rintro (⟨q1, q2, q3⟩ | q)
              · exact ⟨q1, Or.inl q2, q3⟩
              · rw [← q]; exact ⟨y0, Or.inr rfl, hfy⟩
            · rintro ⟨q1, q2 | q2, q3⟩
              · exact Or.inl ⟨q1, q2, q3⟩
              · exact Or.inr q2
          obtain ⟨S', z1, z2⟩ := ih (s + 1) _ (by omega) hb'
          refine ⟨S', z1, fun v τ hg => g123 v τ ?_⟩
          have z := z2 v τ hg
          rw [← nI_1] at z
          rw [cb_B_f hh]
          refine rp_handles_145_2 I J _ _ _ _ _ _ _ _ (by decide) ((cb_bit0 ⟨S, by have := hb.1; omega⟩ ⟨(cb_od n p a 0).getD k 0, by omega⟩).mpr bxf) ?_
          rw [cb_bit ⟨S, by have := hb.1; omega⟩ ⟨cb_b n a s ((cb_od n p a 0).getD k 0), by omega⟩]
          exact z
theorem rs_hd85 {x1 x2 : Int32} (hn : n < 7) (hp : p ≤ 8) (hal : a.length = p) (hok : cb_ok n p a) (hcn : cb_cn n p a) (h0 : 0 < n) (hc : cb_cx n p cs I) (hat : cb_at a I) (ht : cb_tn n (cb_od n p a 0) I) : ∀ (r k S : Nat), k + r = n → cb_bt n p a k 0 S → ∃ S', cb_bt n p a n 0 S' ∧ ∀ v τ, rk_go (rk_call (d + 2)) 64 (183, [some (.ref 0), some (.int x1), some (.int x2), some (.int (nI S')), some (.int 0), none, none, none], [], (rk_R, I, J)) v τ → rk_go (rk_call (d + 2)) 64 (85, [some (.ref 0), some (.int x1), some (.int x2), some (.int (nI S)), some (.int (nI k)), none, none, none], [], (rk_R, I, J)) v τ := by
  have hl := cb_con_full hn hok hcn h0
  intro r
  induction r with
  | zero =>
    intro k S hk hb
    have : k = n := by omega
    subst this
    exact ⟨S, hb, fun v τ hg => rp_handles_85_0 I J _ _ _ _ (by rw [hc.1.1]; exact nI_le (Nat.le_refl k) (by omega)) hg⟩
  | succ r ih =>
    intro k S hk hb
    obtain ⟨S1, z1, z2⟩ := rs_hd106 (d := d) (J := J) (x1 := x1) (x2 := x2) hn hp hal hok hcn h0 hc hat ht (show k < n by omega) p 0 S (Nat.zero_add p) hb
    obtain ⟨S', k1, k2⟩ := ih (k + 1) S1 (by omega) z1
    refine ⟨S', k1, fun v τ hg => ?_⟩
    have q := rp_handles_85_1 (C := rk_call (d + 2)) (v := v) (τ := τ) I J x1 x2 (nI S) (nI k) (by rw [hc.1.1]; exact nI_ge (by omega) (by omega)) (vp_in_nI (by omega) (by decide))
    rw [nI_clamp (by omega), ht.2 k (by omega)] at q
    exact q (z2 v τ (k2 v τ hg))
def cb_Q2 (n : Nat) (cs : Nat → Nat) : Nat → Nat
  | 0 => 0
  | s + 1 => cb_Q2 n cs s + n / cs s
theorem rs_handles (hn1 : 1 ≤ n) (hn : n < 7) (hp3 : 3 ≤ p) (hp : p ≤ 8) (hcs : ∀ j, j < p → cs j < 10 ∧ cs j ≠ 1) (hal : a.length = p) (hok : cb_ok n p a) (hcn : cb_cn n p a) (hsm : cb_sm n p cs a) (hc : cb_cx n p cs I) (h34 : ∀ k, k < p → I 34 k = nI (a.getD k 0)) : ∃ I', rk_call (d + 3) 64 [.ref 0] (rk_R, I, J) (some (.int (cb_hv n p cs a))) (rk_R, I', J) ∧ ∀ q, q ≠ 30 → q ≠ 32 → q ≠ 33 → I' q = I q := by
  have h0 : 0 < n := hn1
  have p64 := cb_pow64 hn
  have np48 : n * p ≤ 6 * 8 := Nat.mul_le_mul (by omega) hp
  obtain ⟨I1, c1, c2, c3⟩ := rs_cp_34_30 (I := I) (J := J) (d + 1)
  have hc1 : cb_cx n p cs I1 := cb_cx_fS (fun q k a1 _ _ _ _ => c3 q k a1) hc
  have hat1 : cb_at a I1 := fun k hk => (c2 k (by omega)).trans (h34 k (by omega))
  have hf1 : ∀ q, q ≠ 30 → I1 q = I q := fun q hq => funext (fun k => c3 q k hq)
  have beg : ∀ v τ, rk_go (rk_call (d + 2)) 64 (35, [some (.ref 0), some (.int (nI (4 + n * p - 2 * n))), some (.int (nI 0)), some (.int (nI 0)), none, none, none, none], [], (rk_R, I1, J)) v τ → rk_call (d + 3) 64 [.ref 0] (rk_R, I, J) v τ := fun v τ hg => by
    have q := rp_handles_12_0 (C := rk_call (d + 2)) (v := v) (τ := τ) I1 J
    have le2 : 2 * n ≤ 4 + n * p := by
      have : n * 3 ≤ n * p := Nat.mul_le_mul_left n hp3
      omega
    have e : (2 : Int32) * (2 - I1 0 53) + I1 0 53 * I1 0 1 = nI (4 + n * p - 2 * n) := by
      rw [hc1.1.1, hc1.2.1, pk_mul, show (2 : Int32) = nI 2 from rfl]
      have : nI 2 * (nI 2 - nI n) = nI 4 - nI (2 * n) := by
        rw [Int32.mul_sub, pk_mul, pk_mul]
      rw [this, Int32.sub_eq_add_neg, Int32.add_assoc, Int32.add_comm (-nI (2 * n)), ← Int32.add_assoc, ← Int32.sub_eq_add_neg, show nI 4 + nI (n * p) = nI (4 + n * p) from (Int32.ofNat_add _ _).symm, pk_sub le2]
    rw [e] at q
    exact ij_cr_of (Nat.le_of_ble_eq_true rfl) (rp_handles_0_0 I J c1 (q hg))
  by_cases all : ∀ s, s < p → cs s ≠ 0
  · -- the corners
    obtain ⟨I2, n1, n2, n3⟩ := rs_numbers (d := d) (J := J) (x := 0) hn hp hal hok h0 hc1 hat1
    have hc2 : cb_cx n p cs I2 := cb_cx_fS (fun q k a1 a2 a3 _ _ => congrFun (n3 q a2 a3) k) hc1
    have hat2 : cb_at a I2 := by unfold cb_at; rw [n3 30 (by decide) (by decide)]; exact hat1
    have hQ2 : ∀ s, s ≤ p → cb_Q2 n cs s ≤ s * 6 := by
      intro s
      induction s with
      | zero => intro _; exact Nat.zero_le _
      | succ s ih =>
        intro hs
        have h1 := ih (by omega)
        have h2 := Nat.div_le_self n (cs s)
        show cb_Q2 n cs s + n / cs s ≤ (s + 1) * 6
        omega
    have loop : ∀ (r s : Nat), s + r = p → ∀ v τ, rk_go (rk_call (d + 2)) 64 (85, [some (.ref 0), some (.int (nI (4 + n * p - 2 * n))), some (.int (nI (cb_Q2 n cs p))), some (.int 0), some (.int 0), none, none, none], [], (rk_R, I2, J)) v τ → rk_go (rk_call (d + 2)) 64 (35, [some (.ref 0), some (.int (nI (4 + n * p - 2 * n))), some (.int (nI (cb_Q2 n cs s))), some (.int (nI s)), none, none, none, none], [], (rk_R, I1, J)) v τ := by
      intro r
      induction r with
      | zero =>
        intro s hs v τ hg
        have : s = p := by omega
        subst this
        exact rp_handles_35_0 I1 J _ _ _ (by rw [hc1.2.1]; exact nI_le (Nat.le_refl s) (by omega)) _ n1 (rp_handles_79_0 I2 J _ _ _ hg)
      | succ r ih =>
        intro s hs v τ hg
        have cl : (nI s).toNatClampNeg = s := nI_clamp (by omega)
        have es := hc1.2.2 s (by omega)
        have cs10 := (hcs s (by omega)).1
        have cs0 := all s (by omega)
        have nz : ¬ I1 1 s = 0 := by rw [es]; exact nI_ne0 (by omega) (by omega)
        have q := rp_handles_35_1 (C := rk_call (d + 2)) (v := v) (τ := τ) I1 J (nI (4 + n * p - 2 * n)) (nI (cb_Q2 n cs s)) (nI s) (by rw [hc1.2.1]; exact nI_ge (by omega) (by omega)) (vp_in_nI (by omega) (by decide)) (by rw [cl]; exact nz) (vp_in_nI (by omega) (by decide)) (by rw [cl]; exact nz)
        rw [cl, es, hc1.1.1, pk_div (by omega) (by omega) (by omega), show nI (cb_Q2 n cs s) + nI (n / cs s) = nI (cb_Q2 n cs s + n / cs s) from (Int32.ofNat_add _ _).symm, nI_1] at q
        exact q (ih (s + 1) (by omega) v τ hg)
    obtain ⟨S, s1, s2⟩ := rs_hd85 (d := d) (J := J) (x1 := nI (4 + n * p - 2 * n)) (x2 := nI (cb_Q2 n cs p)) hn hp hal hok hcn h0 hc2 hat2 n2 n 0 0 (Nat.zero_add n) ⟨Nat.two_pow_pos n, fun f hf y hy => ⟨fun q => by rw [Nat.zero_testBit] at q; exact absurd q (by decide), fun ⟨_, ⟨j, r, _, _, h3, _⟩, _⟩ => by omega⟩⟩
    have hS : S < 64 := by have := s1.1; omega
    -- bits are sorts
    have bits : ∀ f, cb_two n p a f → ∀ y, y < n → (S.testBit y = true ↔ f y = 1) := fun f hf y hy => by
      rw [s1.2 f hf y hy]
      constructor
      · exact fun q => q.2.2
      · intro q
        have y0 : y ≠ 0 := fun z => by rw [z, hf.1] at q; exact absurd q (by decide)
        refine ⟨y0, ?_, q⟩
        obtain ⟨o1, o2, o3⟩ := cb_o_all hn hok hcn h0
        have hi := o2 y hy
        have hi0 : (cb_od n p a 0).idxOf y ≠ 0 := fun z => y0 (by have := hi.2; rw [z, o3] at this; exact this.symm)
        obtain ⟨j, r', q1, q2, q3⟩ := cb_od_pa (n := n) (p := p) (a := a) 0 ((cb_od n p a 0).idxOf y) (by omega) (by rw [cb_con_full hn hok hcn h0]; exact hi.1)
        rw [hi.2] at q3
        exact ⟨j, r', q2, by omega, Or.inl (by omega), q3⟩
    have bip : cb_bip n p a ↔ ∀ x s, x < n → s < p → S.testBit (cb_b n a s x) ≠ S.testBit x := by
      constructor
      · rintro ⟨f, hf⟩ x s hx hs e
        have h1 := bits f hf x hx
        have h2 := bits f hf _ (cb_b_lt hn hok hs hx)
        rw [e] at h2
        have h3 := hf.2.2 s x hs hx
        have h4 := hf.2.1 x hx
        have h5 := hf.2.1 _ (cb_b_lt hn hok hs hx)
        by_cases q : S.testBit x = true
        · have := h1.mp q
          have := h2.mp q
          omega
        · have : ¬ f x = 1 := fun z => q (h1.mpr z)
          have : ¬ f (cb_b n a s x) = 1 := fun z => q (h2.mpr z)
          omega
      · intro h
        by_cases z : S.testBit 0 = true
        · refine ⟨fun x => if S.testBit x then 0 else 1, by show (if S.testBit 0 then 0 else 1) = 0; rw [if_pos z], fun x _ => by show (if S.testBit x then 0 else 1) < 2; by_cases q : S.testBit x = true; rw [if_pos q]; decide; rw [if_neg q]; decide, fun s x hs hx e => ?_⟩
          have e' : (if S.testBit (cb_b n a s x) then 0 else 1) = (if S.testBit x then (0 : Nat) else 1) := e
          have h1 := h x s hx hs
          revert e' h1
          cases S.testBit (cb_b n a s x) <;> cases S.testBit x <;> decide
        · refine ⟨fun x => if S.testBit x then 1 else 0, by show (if S.testBit 0 then 1 else 0) = 0; rw [if_neg z], fun x _ => by show (if S.testBit x then 1 else 0) < 2; by_cases q : S.testBit x = true; rw [if_pos q]; decide; rw [if_neg q]; decide, fun s x hs hx e => ?_⟩
          have e' : (if S.testBit (cb_b n a s x) then 1 else 0) = (if S.testBit x then (1 : Nat) else 0) := e
          have h1 := h x s hx hs
          revert e' h1
          cases S.testBit (cb_b n a s x) <;> cases S.testBit x <;> decide
    have bad : ∀ x s, x < n → s < p → S.testBit (cb_b n a s x) = S.testBit x → cb_hv n p cs a = -1 := fun x s hx hs e => by
      unfold cb_hv
      rw [cb_B_f (fun q => bip.mp q.1 x s hx hs e)]
      rfl
    -- the last look
    have loop195 : ∀ (x : Nat), x < n → ((∀ x' s', x' < x + 1 → s' < p → S.testBit (cb_b n a s' x') ≠ S.testBit x') → rk_go (rk_call (d + 2)) 64 (183, [some (.ref 0), some (.int (nI (4 + n * p - 2 * n))), some (.int (nI (cb_Q2 n cs p))), some (.int (nI S)), some (.int (nI (x + 1))), none, none, none], [], (rk_R, I2, J)) (some (.int (cb_hv n p cs a))) (rk_R, I2, J)) → (∀ x' s', x' < x → s' < p → S.testBit (cb_b n a s' x') ≠ S.testBit x') → ∀ (r s : Nat), s + r = p → (∀ s', s' < s → S.testBit (cb_b n a s' x) ≠ S.testBit x) → rk_go (rk_call (d + 2)) 64 (195, [some (.ref 0), some (.int (nI (4 + n * p - 2 * n))), some (.int (nI (cb_Q2 n cs p))), some (.int (nI S)), some (.int (nI x)), some (.int (nI s)), none, none], [], (rk_R, I2, J)) (some (.int (cb_hv n p cs a))) (rk_R, I2, J) := by
      intro x hx nxt hbef r
      induction r with
      | zero =>
        intro s hs h
        have : s = p := by omega
        subst this
        refine rp_handles_195_0 I2 J _ _ _ _ _ (by rw [hc2.2.1]; exact nI_le (Nat.le_refl s) (by omega)) ?_
        rw [nI_1]
        exact nxt (fun x' s' h1 h2 => by
          by_cases e : x' = x
          · rw [e]; exact h s' h2
          · exact hbef x' s' (by omega) h2)
      | succ r ih =>
        intro s hs h
        have hsp : s < p := by omega
        have hbx := cb_b_lt hn hok hsp hx
        refine rp_handles_195_1 I2 J _ _ _ _ _ (by rw [hc2.2.1]; exact nI_ge (by omega) (by omega)) _ (rs_go (d := d + 1) hn hc2.1 (by omega) (hat2 s (by omega)) (hok s hsp) hx) ?_
        have bq := cb_bitq ⟨S, hS⟩ ⟨x, by omega⟩ ⟨cb_b n a s x, by omega⟩
        by_cases e : S.testBit (cb_b n a s x) = S.testBit x
        · rw [bad x s hx hsp e]
          exact rp_handles_219_1 I2 J _ _ _ _ _ _ _ _ (bq.mpr e.symm)
        · refine rp_handles_219_0 I2 J _ _ _ _ _ _ _ _ (fun q => e (bq.mp q).symm) ?_
          rw [nI_1]
          exact ih (s + 1) (by omega) (fun s' hs' => by
            by_cases es : s' = s
            · rw [es]; exact e
            · exact h s' (by omega))
    have loop183 : ∀ (r x : Nat), x + r = n → (∀ x' s', x' < x → s' < p → S.testBit (cb_b n a s' x') ≠ S.testBit x') → rk_go (rk_call (d + 2)) 64 (183, [some (.ref 0), some (.int (nI (4 + n * p - 2 * n))), some (.int (nI (cb_Q2 n cs p))), some (.int (nI S)), some (.int (nI x)), none, none, none], [], (rk_R, I2, J)) (some (.int (cb_hv n p cs a))) (rk_R, I2, J) := by
      intro r
      induction r with
      | zero =>
        intro x hx h
        have : x = n := by omega
        subst this
        have hv : cb_hv x p cs a = nI ((2 + x * p / 2 - x - cb_Qs x cs p) / 2) := by
          unfold cb_hv
          rw [cb_B_t ⟨bip.mpr (fun x' s' h1 h2 => h x' s' h1 h2), all⟩, if_pos rfl]
        -- all is even
        have dv : ∀ s, s < p → x % (2 * cs s) = 0 := fun s hs => by
          have hsp : (s + 1) % p < p := Nat.mod_lt _ (by omega)
          exact cb_dv hn1 hn (hok s hs) (hok _ hsp) (fun y hy => (hsm s hs y hy).1) (fun y hy => (hsm _ hsp y hy).1) (fun y hy => (hsm s hs y hy).2 (all s hs))
        have ev : x % 2 = 0 := by
          have := dv 0 (by omega)
          have h2 := Nat.mod_mul_right_mod x 2 (cs 0)
          rw [this] at h2
          exact h2.symm
        have eQ : ∀ s, s ≤ p → cb_Q2 x cs s = 2 * cb_Qs x cs s := by
          intro s
          induction s with
          | zero => intro _; rfl
          | succ s ih =>
            intro hs
            show cb_Q2 x cs s + x / cs s = 2 * (cb_Qs x cs s + x / (2 * cs s))
            rw [ih (by omega)]
            have hd := dv s (by omega)
            have hpos : 0 < cs s := Nat.pos_of_ne_zero (all s (by omega))
            obtain ⟨m, hm⟩ : ∃ m, x = 2 * cs s * m := ⟨x / (2 * cs s), by have := Nat.div_add_mod x (2 * cs s); omega⟩
            have d1 : x / (2 * cs s) = m := by rw [hm]; exact Nat.mul_div_cancel_left m (by omega)
            have d2 : x / cs s = 2 * m := by rw [hm, show 2 * cs s * m = cs s * (2 * m) by rw [Nat.mul_comm 2 (cs s), Nat.mul_assoc]]; exact Nat.mul_div_cancel_left _ hpos
            rw [d1, d2]
            omega
        have hQ := cb_Qs_le (n := x) hcs all p (Nat.le_refl p)
        have hbd0 := cb_hbd ⟨x, by omega⟩ ⟨p, by omega⟩ hp3
        have hbd : x + p * (x / 4) ≤ 2 + x * p / 2 := hbd0
        have even : x * p = 2 * (x * p / 2) := by
          have h1 : x * p % 2 = 0 := by rw [Nat.mul_mod, ev, Nat.zero_mul, Nat.zero_mod]
          omega
        rw [hv]
        have q := rp_handles_183_0 (C := rk_call (d + 2)) I2 J (nI (4 + x * p - 2 * x)) (nI (cb_Q2 x cs p)) (nI S) (nI x) (by rw [hc2.1.1]; exact nI_le (Nat.le_refl x) (by omega)) (by decide)
        rw [eQ p (Nat.le_refl p), pk_sub (by omega), show (4 : Int32) = nI 4 from rfl, pk_div (by omega) (by decide) (by decide)] at q
        rw [eQ p (Nat.le_refl p)]
        rw [show (4 + x * p - 2 * x - 2 * cb_Qs x cs p) / 4 = (2 + x * p / 2 - x - cb_Qs x cs p) / 2 from by omega] at q
        exact q
      | succ r ih =>
        intro x hx h
        exact rp_handles_183_1 I2 J _ _ _ _ (by rw [hc2.1.1]; exact nI_ge (by omega) (by omega)) (loop195 x (by omega) (ih (x + 1) (by omega)) h p 0 (Nat.zero_add p) (fun s' hs' => absurd hs' (Nat.not_lt_zero s')))
    exact ⟨I2, beg _ _ (loop p 0 (Nat.zero_add p) _ _ (s2 _ _ (loop183 n 0 (Nat.zero_add n) (fun x' s' hx' => absurd hx' (Nat.not_lt_zero x'))))), fun q h1 h2 h3 => (n3 q h2 h3).trans (hf1 q h1)⟩
  · -- a corner of 0
    have hv : cb_hv n p cs a = -1 := by
      unfold cb_hv
      rw [cb_B_f (fun q => all q.2)]
      rfl
    rw [hv]
    have loop : ∀ (r s : Nat) (x2 : Int32), s + r = p → (∀ s', s' < s → cs s' ≠ 0) → rk_go (rk_call (d + 2)) 64 (35, [some (.ref 0), some (.int (nI (4 + n * p - 2 * n))), some (.int x2), some (.int (nI s)), none, none, none, none], [], (rk_R, I1, J)) (some (.int (-1))) (rk_R, I1, J) := by
      intro r
      induction r with
      | zero =>
        intro s x2 hs h
        have : s = p := by omega
        subst this
        exact absurd h all
      | succ r ih =>
        intro s x2 hs h
        have cl : (nI s).toNatClampNeg = s := nI_clamp (by omega)
        have es := hc1.2.2 s (by omega)
        have cs10 := (hcs s (by omega)).1
        by_cases e : cs s = 0
        · exact rp_handles_35_2 I1 J _ _ _ (by rw [hc1.2.1]; exact nI_ge (by omega) (by omega)) (vp_in_nI (by omega) (by decide)) (by rw [cl, es, e]; rfl)
        · have nz : ¬ I1 1 s = 0 := by rw [es]; exact nI_ne0 (by omega) (by omega)
          refine rp_handles_35_1 I1 J _ _ _ (by rw [hc1.2.1]; exact nI_ge (by omega) (by omega)) (vp_in_nI (by omega) (by decide)) (by rw [cl]; exact nz) (vp_in_nI (by omega) (by decide)) (by rw [cl]; exact nz) ?_
          rw [nI_1]
          exact ih (s + 1) _ (by omega) (fun s' hs' => by
            by_cases es' : s' = s
            · rw [es']; exact e
            · exact h s' (by omega))
    exact ⟨I1, beg _ _ (loop p 0 (nI 0) (Nat.zero_add p) (fun s' hs' => absurd hs' (Nat.not_lt_zero s'))), fun q h1 _ _ => hf1 q h1⟩
end CHb
