/-! ===== laying a board: both, side by side ===== -/
abbrev pg_Q : Type := Nat → (Nat → Nat → Nat) → (Nat → Nat) → (Nat → Nat → Nat) → (Nat → Nat → Nat) → Nat → Nat → Prop
/-- what must be known of a board: Q holds at home, and goes on from side to side; where the class has a neighbour its vector is the turned one, where it has none no tile has the turned vector -/
def pg_ok (p : Nat) (cs : Nat → Nat) (Q : pg_Q) : Prop :=
  Q 1 (fun _ _ => 2000) (fun _ => 0) (fun _ _ => 1) (fun _ _ => 1) 0 0 ∧
  ∀ n ac rg V1 V2 t s, Q n ac rg V1 V2 t s →
    (t < n ∧ pg_g p n ac rg ∧ rg t < 63 ∧ ∀ x y, x < t → y < p → ac x y < 2000) ∧
    (s = p → Q n ac rg V1 V2 (t + 1) 0) ∧
    (s < p → ac t s < 2000 → (t < ac t s → rv_e p (V1 (ac t s)) (V2 (ac t s)) (rv_w1 p cs V1 t s) (rv_w2 p cs V2 t s)) ∧ Q n ac rg V1 V2 t (s + 1)) ∧
    (s < p → ¬ ac t s < 2000 → (∀ u, u < n → ¬ rv_e p (V1 u) (V2 u) (rv_w1 p cs V1 t s) (rv_w2 p cs V2 t s)) ∧ (n < 2000 → pg_f ac n t (nb_f1 p cs ac rg n t s) ((s + 1) % p) ∧ pg_f ac n t (nb_f2 p cs ac rg n t s) ((s + p - 1) % p) ∧ Q (n + 1) (nb_a4 p cs ac rg n t s) (nb_rg rg n t) (rv_u V1 n (rv_w1 p cs V1 t s)) (rv_u V2 n (rv_w2 p cs V2 t s)) t (s + 1)))
/-- names: the side and the tile that made a tile, and colours -/
def nm_t (p n : Nat) (ac : Nat → Nat → Nat) (rg : Nat → Nat) (I I2 : Nat → Nat → Int32) : Prop := I2 10 0 = 0 ∧ ∀ x, 0 < x → x < n → ∃ s u, s < p ∧ u < x ∧ I 11 x = nI s ∧ I2 12 x = nI s ∧ I2 11 x = nI u ∧ ac x s = u ∧ rg x = rg u + 1 ∧ I2 10 x = I2 10 u ^^^ (1 <<< (I2 22 s &&& 31))
/-- both under way, at side s of tile t -/
def jt (p : Nat) (cs : Nat → Nat) (Q : pg_Q) (n : Nat) (ac : Nat → Nat → Nat) (rg : Nat → Nat) (V1 V2 : Nat → Nat → Nat) (t s : Nat) (I : Nat → Nat → Int32) (J : Nat → Nat → Int64) (I2 : Nat → Nat → Int32) (J2 : Nat → Nat → Int64) : Prop := Q n ac rg V1 V2 t s ∧ cr_t p cs n ac rg I J ∧ (∃ tb, rr_t p cs n (pd ac t s) rg V1 V2 tb I2 J2) ∧ nm_t p n ac rg I I2
/-- rings before and after -/
def jg (n G : Nat) (rg : Nat → Nat) (n' : Nat) (rg' : Nat → Nat) : Prop := n ≤ n' ∧ (∀ x, x < n → rg' x = rg x) ∧ ∀ x, n ≤ x → x < n' → rg' x = G + 1
theorem jg_trans {n G n' n2 : Nat} {rg rg' rg2 : Nat → Nat} (h : jg n G rg n' rg') (h' : jg n' G rg' n2 rg2) : jg n G rg n2 rg2 := by
  refine ⟨Nat.le_trans h.1 h'.1, fun x hx => (h'.2.1 x (Nat.lt_of_lt_of_le hx h.1)).trans (h.2.1 x hx), fun x h0 hx => ?_⟩
  by_cases e : x < n'
  · rw [h'.2.1 x e]; exact h.2.2 x h0 e
  · exact h'.2.2 x (by omega) hx
def jf (n : Nat) (I : Nat → Nat → Int32) (J : Nat → Nat → Int64) (I2 : Nat → Nat → Int32) (J2 : Nat → Nat → Int64) (I' : Nat → Nat → Int32) (J' : Nat → Nat → Int64) (I2' : Nat → Nat → Int32) (J2' : Nat → Nat → Int64) : Prop := cr_fr n I I' J J' ∧ rr_fr n I2 I2' J2 J2'
theorem jf_refl {n : Nat} {I : Nat → Nat → Int32} {J : Nat → Nat → Int64} {I2 : Nat → Nat → Int32} {J2 : Nat → Nat → Int64} : jf n I J I2 J2 I J I2 J2 := ⟨⟨fun _ _ _ _ _ _ => rfl, fun _ _ => rfl, fun _ _ => rfl⟩, fun _ _ _ _ _ => rfl, fun _ _ _ _ _ => rfl, fun _ _ => rfl⟩
theorem jf_trans {n n' : Nat} (hn : n ≤ n') {I : Nat → Nat → Int32} {J : Nat → Nat → Int64} {I2 : Nat → Nat → Int32} {J2 : Nat → Nat → Int64} {I' : Nat → Nat → Int32} {J' : Nat → Nat → Int64} {I2' : Nat → Nat → Int32} {J2' : Nat → Nat → Int64} {Ia : Nat → Nat → Int32} {Ja : Nat → Nat → Int64} {I2a : Nat → Nat → Int32} {J2a : Nat → Nat → Int64} (h : jf n I J I2 J2 I' J' I2' J2') (h' : jf n' I' J' I2' J2' Ia Ja I2a J2a) : jf n I J I2 J2 Ia Ja I2a J2a :=
  ⟨⟨fun q k a b c e => (h'.1.1 q k a b c e).trans (h.1.1 q k a b c e), fun x hx => (h'.1.2.1 x (Nat.lt_of_lt_of_le hx hn)).trans (h.1.2.1 x hx), fun q hq => (h'.1.2.2 q hq).trans (h.1.2.2 q hq)⟩, fun q k a b c => (h'.2.1 q k a b c).trans (h.2.1 q k a b c), fun q x a b hx => (h'.2.2.1 q x a b (Nat.lt_of_lt_of_le hx hn)).trans (h.2.2.1 q x a b hx), fun q hq => (h'.2.2.2 q hq).trans (h.2.2.2 q hq)⟩
abbrev jc (X : ij_R) (d to t s : Nat) (b : Bool) (I : Nat → Nat → Int32) (J : Nat → Nat → Int64) (v : Option Value) (τ : ij_S) : Prop := xk_go (ik_cr xk_P xk_M xk_Y xk_K X (d + 4)) 49 (10, [some (.ref 6), none, some (.int (nI to)), some (.int (nI t)), some (.int (nI s))], [], (xk_R b, I, J)) v τ
abbrev jq (d to G t s : Nat) (I : Nat → Nat → Int32) (J : Nat → Nat → Int64) (v : Option Value) (τ : ij_S) : Prop := rk_go (rk_call (d + 2)) 28 (12, [some (.ref 0), none, some (.int (nI to)), some (.int (nI (G + 1))), some (.int (nI t)), some (.int (nI s)), none], [], (rk_R, I, J)) v τ
section JT1
variable {X : ij_R} {d e p n t s to : Nat} {b : Bool} {ac : Nat → Nat → Nat} {rg : Nat → Nat} {cs : Nat → Nat} {V1 V2 : Nat → Nat → Nat} {Q : pg_Q} {I : Nat → Nat → Int32} {J : Nat → Nat → Int64} {I2 : Nat → Nat → Int32} {J2 : Nat → Nat → Int64}
theorem nm_same {ac' : Nat → Nat → Nat} {rg' : Nat → Nat} {I' I2' : Nat → Nat → Int32} {J' : Nat → Nat → Int64} {J2' : Nat → Nat → Int64} (hf : jf n I J I2 J2 I' J' I2' J2') (hn : 0 < n) (h : nm_t p n ac rg I I2) (ha : ∀ x y, x < n → y < p → ac x y < 2000 → ac' x y = ac x y) (hg : ∀ x, x < n → rg' x = rg x) (h2 : n ≤ 2000) : nm_t p n ac' rg' I' I2' := by
  obtain ⟨⟨_, f1, _⟩, g0, g1, _⟩ := hf
  refine ⟨(g1 10 0 (by omega) (by omega) hn).trans h.1, fun x h0 hx => ?_⟩
  obtain ⟨s, u, a1, a2, a3, a4, a5, a6, a7, a8⟩ := h.2 x h0 hx
  refine ⟨s, u, a1, a2, (f1 x hx).trans a3, (g1 12 x (by omega) (by omega) hx).trans a4, (g1 11 x (by omega) (by omega) hx).trans a5, ?_, ?_, ?_⟩
  · rw [ha x s hx a1 (by omega)]; exact a6
  · rw [hg x hx, hg u (by omega)]; exact a7
  · rw [g1 10 x (by omega) (by omega) hx, g1 10 u (by omega) (by omega) (by omega), g0 22 s (by omega) (by omega) (by omega)]; exact a8
theorem jt_step (hp3 : 3 ≤ p) (hQ : pg_ok p cs Q) (hj : jt p cs Q n ac rg V1 V2 t s I J I2 J2) (hs : s < p) :
    (n = 2000 ∧ ¬ ac t s < 2000 ∧ jc X d to t s b I J (some (.int 0)) (xk_R b, I, J) ∧ ∃ J3, jt p cs Q n ac rg V1 V2 t s I J I2 J3 ∧ jf n I J I2 J2 I J I2 J3 ∧ jq e to (rg t) t s I2 J2 (some (.int 0)) (rk_R, I2, J3)) ∨
    ∃ n' ac' rg' V1' V2' I' J' I2' J2', jt p cs Q n' ac' rg' V1' V2' t (s + 1) I' J' I2' J2' ∧ jg n (rg t) rg n' rg' ∧ jf n I J I2 J2 I' J' I2' J2' ∧ (∀ v τ, jc X d to t (s + 1) b I' J' v τ → jc X d to t s b I J v τ) ∧ ∀ v τ, jq e to (rg t) t (s + 1) I2' J2' v τ → jq e to (rg t) t s I2 J2 v τ := by
  obtain ⟨hq, hc, ⟨tb, hr⟩, hnm⟩ := hj
  obtain ⟨⟨htn, hg, h63, _⟩, _, k1, k2⟩ := hQ.2 n ac rg V1 V2 t s hq
  have n2 : n ≤ 2000 := hc.1.2.1
  have pc := pl_t_c hc.1
  by_cases ha : ac t s < 2000
  · right
    obtain ⟨k3, k4⟩ := k1 hs ha
    obtain ⟨g1, g2, g3⟩ := hg.1 t s htn hs ha
    have ne : ac t s ≠ t := by
      intro z
      rw [z] at g3
      omega
    by_cases hl : ac t s < t
    · refine ⟨n, ac, rg, V1, V2, I, J, I2, J2, ⟨k4, hc, ⟨tb, rr_congr hr (fun x y hx hy => pd_skip hg htn hs hl hx hy)⟩, hnm⟩, ⟨Nat.le_refl _, fun _ _ => rfl, fun x a b => absurd b (by omega)⟩, jf_refl, fun v τ z => lx_ring_old hc htn hs ha z, fun v τ z => rr_skip hr htn hs ?_ z⟩
      rw [pd_done hl (by omega)]
      exact ha
    · have hu : t < ac t s := by omega
      obtain ⟨I3, J3, r1, r2, r3⟩ := rr_old (d := e) (x2 := nI to) (g := nI (rg t + 1)) (u := ac t s) hr htn hs g1 hu (by rw [pd_self hl]; omega) (by
        unfold pd
        rw [g2, if_neg (by omega)]; omega) (fun x y hx hy hz => by
        unfold pd at hz
        by_cases c : ac x y < 2000 ∧ (x < t ∨ ac x y < t ∨ ((x = t ∨ ac x y = t) ∧ y < s))
        · rw [if_pos c] at hz; omega
        · rw [if_neg c] at hz; omega) (k3 hu) (a' := pd ac t (s + 1)) (by rw [pd_old hg htn hs hu ha htn hs, if_pos ⟨rfl, rfl⟩]) (by rw [pd_old hg htn hs hu ha g1 hs, if_neg (fun z => ne z.1), if_pos ⟨rfl, rfl⟩]) (fun x y hx hy c1 c2 => by rw [pd_old hg htn hs hu ha hx hy, if_neg c1, if_neg c2])
      have f : jf n I J I2 J2 I J I3 J3 := ⟨(jf_refl (I2 := I2) (J2 := J2)).1, r3⟩
      exact ⟨n, ac, rg, V1, V2, I, J, I3, J3, ⟨k4, hc, ⟨tb, r2⟩, nm_same f (by omega) hnm (fun _ _ _ _ _ => rfl) (fun _ _ => rfl) n2⟩, ⟨Nat.le_refl _, fun _ _ => rfl, fun x a b => absurd b (by omega)⟩, f, fun v τ z => lx_ring_old hc htn hs ha z, r1⟩
  · obtain ⟨k3, k4⟩ := k2 hs ha
    have hpd : ¬ pd ac t s t s < 2000 := by
      rw [pd_self (by omega)]; omega
    by_cases hn : n = 2000
    · left
      subst hn
      obtain ⟨J3, j1, j2⟩ := rr_full (d := e) (x2 := nI to) (g := nI (rg t + 1)) hr htn hs hpd k3
      obtain ⟨p8, _, h1, h21, han, hv⟩ := hr.1
      refine ⟨rfl, ha, lx_ring_full hc htn hs ha, J3, ⟨hq, hc, ⟨tb, ⟨p8, n2, h1, h21, ?_, rv_fr hv rfl (j1 15 (by decide) (by decide)) (j1 16 (by decide) (by decide))⟩, hr.2.1, ?_⟩, hnm⟩, ⟨(jf_refl (I2 := I2) (J2 := J2)).1, fun _ _ _ _ _ => rfl, fun _ _ _ _ _ => rfl, fun q hq => j1 q (by omega) (by omega)⟩, j2⟩
      · intro i j hi hj
        rw [j1 19 (by decide) (by decide), j1 20 (by decide) (by decide)]
        exact han i j hi hj
      · rw [j1 14 (by decide) (by decide)]; exact hr.2.2
    · right
      have hn' : n < 2000 := by omega
      obtain ⟨f1, f2, k5⟩ := k4 hn'
      obtain ⟨I', J', c1, c2, c3, c4⟩ := lx_ring_new (X := X) (d := d) (b := b) (x2 := nI to) hp3 hc hn' htn hs ha (by omega) f1 f2
      obtain ⟨I2', J2', tb', r1, r2, ⟨r4, r5, r6⟩, r3⟩ := rr_new (d := e) (x2 := nI to) hr hn' htn hs (fun x y hx hy hz => by
        have q := pd_le hz
        rw [q] at hz
        rw [q]
        exact pc x y hx hy hz) hpd k3 (a' := pd (nb_a4 p cs ac rg n t s) t (s + 1)) (by rw [pd_new hg hp3 htn hn' hs ha f1 f2 (Nat.lt_succ_of_lt htn) hs, if_neg (by omega), if_pos ⟨rfl, rfl⟩]) (fun y hy => by rw [pd_new hg hp3 htn hn' hs ha f1 f2 (Nat.lt_succ_self n) hy, if_pos rfl]) (fun x y hx hy c1 => by rw [pd_new hg hp3 htn hn' hs ha f1 f2 (Nat.lt_succ_of_lt hx) hy, if_neg (by omega), if_neg c1])
      have f : jf n I J I2 J2 I' J' I2' J2' := ⟨c4, r3⟩
      have hrg : ∀ x, x < n → nb_rg rg n t x = rg x := fun x hx => if_neg (by omega)
      have nm1 := nm_same (ac' := nb_a4 p cs ac rg n t s) (rg' := nb_rg rg n t) f (by omega) hnm (fun x y hx hy hz => by
        rw [nb_a4_x htn hn' hx, if_neg]
        intro c
        rcases c with c | c | c
        · exact (f2 c.1).2.2 (c.2.1 ▸ c.2.2 ▸ hz)
        · exact (f1 c.1).2.2 (c.2.1 ▸ c.2.2 ▸ hz)
        · exact ha (c.1 ▸ c.2 ▸ hz)) hrg n2
      refine ⟨n + 1, _, _, _, _, I', J', I2', J2', ⟨k5, c2, ⟨tb', r2⟩, nm1.1, fun x h0 hx => ?_⟩, ⟨Nat.le_succ _, hrg, fun x a b => ?_⟩, f, c1, r1⟩
      · by_cases ex : x < n
        · exact nm1.2 x h0 ex
        · have ex' : x = n := by omega
          subst ex'
          obtain ⟨o1, o2, _⟩ := nb_sides hp3 hs
          refine ⟨s, t, hs, htn, c3, r6, r5, ?_, ?_, ?_⟩
          · rw [nb_a4_n htn f1 f2 hn', if_neg (fun z => o2 z.2.symm), if_neg (fun z => o1 z.2.symm), if_pos rfl]
          · rw [hrg t htn]; exact if_pos rfl
          · rw [r4, r3.2.1 10 t (by omega) (by omega) htn, r3.1 22 s (by omega) (by omega) (by omega)]
      · rw [show x = n by omega]
        exact if_pos rfl
end JT1
